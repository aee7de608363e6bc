section
-- ===== PART A: goes FIRST, ahead of the names: the tables' words, and 'selects' of the private methods out of them =====
/-- a private method of a class that the tables say can be made, by its rows of tables_1 -/
def lw_okq (q : MethodName × Nat) : Prop := (q.1.cls ≠ "java/lang/invoke/MethodHandle" ∧ q.1.cls ≠ "java/lang/invoke/VarHandle") ∧ Cond.instantiable q.1.cls q.2 ∈ tables_1 ∧ Cond.privateMethod q.1 ∈ tables_1 ∧ Cond.instanceMethod q.1 ∈ tables_1
theorem lw_p0 : lw_okq (⟨"java/lang/Throwable", "fillInStackTrace", "(I)Ljava/lang/Throwable;"⟩, 6) := ⟨⟨by decide +kernel, by decide +kernel⟩, List.mem_of_getElem? (i := 405) (by decide +kernel), List.mem_of_getElem? (i := 403) (by decide +kernel), List.mem_of_getElem? (i := 404) (by decide +kernel)⟩
theorem lw_p1 : lw_okq (⟨"Segmentry$Schema", "appendEntry", "(ZII)V"⟩, 7) := ⟨⟨by decide +kernel, by decide +kernel⟩, List.mem_of_getElem? (i := 31) (by decide +kernel), List.mem_of_getElem? (i := 458) (by decide +kernel), List.mem_of_getElem? (i := 459) (by decide +kernel)⟩
theorem lw_p2 : lw_okq (⟨"Segmentry$Reader", "split", "(LSegmentry$Sheet;LSegmentry$Message;)V"⟩, 2) := ⟨⟨by decide +kernel, by decide +kernel⟩, List.mem_of_getElem? (i := 143) (by decide +kernel), List.mem_of_getElem? (i := 543) (by decide +kernel), List.mem_of_getElem? (i := 544) (by decide +kernel)⟩
theorem lw_p3 : lw_okq (⟨"Segmentry$Reader", "takeSegment", "(LSegmentry$Sheet;IILSegmentry$Segment;)V"⟩, 2) := ⟨⟨by decide +kernel, by decide +kernel⟩, List.mem_of_getElem? (i := 143) (by decide +kernel), List.mem_of_getElem? (i := 571) (by decide +kernel), List.mem_of_getElem? (i := 572) (by decide +kernel)⟩
theorem lw_p4 : lw_okq (⟨"Segmentry$Reader", "takeElement", "(LSegmentry$Sheet;IILSegmentry$Segment;)V"⟩, 2) := ⟨⟨by decide +kernel, by decide +kernel⟩, List.mem_of_getElem? (i := 143) (by decide +kernel), List.mem_of_getElem? (i := 594) (by decide +kernel), List.mem_of_getElem? (i := 595) (by decide +kernel)⟩
theorem lw_p5 : lw_okq (⟨"Segmentry$Reader", "checkEnvelope", "(LSegmentry$Message;)V"⟩, 2) := ⟨⟨by decide +kernel, by decide +kernel⟩, List.mem_of_getElem? (i := 143) (by decide +kernel), List.mem_of_getElem? (i := 614) (by decide +kernel), List.mem_of_getElem? (i := 615) (by decide +kernel)⟩
theorem lw_p6 : lw_okq (⟨"Segmentry$Reader", "checkNumbers", "(LSegmentry$Message;ZI)V"⟩, 2) := ⟨⟨by decide +kernel, by decide +kernel⟩, List.mem_of_getElem? (i := 143) (by decide +kernel), List.mem_of_getElem? (i := 644) (by decide +kernel), List.mem_of_getElem? (i := 645) (by decide +kernel)⟩
theorem lw_p7 : lw_okq (⟨"Segmentry$Reader", "checkBody", "(LSegmentry$Message;)V"⟩, 2) := ⟨⟨by decide +kernel, by decide +kernel⟩, List.mem_of_getElem? (i := 143) (by decide +kernel), List.mem_of_getElem? (i := 654) (by decide +kernel), List.mem_of_getElem? (i := 655) (by decide +kernel)⟩
theorem lw_p8 : lw_okq (⟨"Segmentry$Matcher", "findMarks", "(LSegmentry$Message;)V"⟩, 6) := ⟨⟨by decide +kernel, by decide +kernel⟩, List.mem_of_getElem? (i := 149) (by decide +kernel), List.mem_of_getElem? (i := 662) (by decide +kernel), List.mem_of_getElem? (i := 663) (by decide +kernel)⟩
theorem lw_p9 : lw_okq (⟨"Segmentry$Matcher", "findAfters", "(LSegmentry$Entry;I)V"⟩, 6) := ⟨⟨by decide +kernel, by decide +kernel⟩, List.mem_of_getElem? (i := 149) (by decide +kernel), List.mem_of_getElem? (i := 686) (by decide +kernel), List.mem_of_getElem? (i := 687) (by decide +kernel)⟩
theorem lw_p10 : lw_okq (⟨"Segmentry$Matcher", "placesBeforePass", "(LSegmentry$Entry;I)I"⟩, 6) := ⟨⟨by decide +kernel, by decide +kernel⟩, List.mem_of_getElem? (i := 149) (by decide +kernel), List.mem_of_getElem? (i := 690) (by decide +kernel), List.mem_of_getElem? (i := 691) (by decide +kernel)⟩
theorem lw_p11 : lw_okq (⟨"Segmentry$Matcher", "placesBeforeItem", "(IIII)I"⟩, 6) := ⟨⟨by decide +kernel, by decide +kernel⟩, List.mem_of_getElem? (i := 149) (by decide +kernel), List.mem_of_getElem? (i := 697) (by decide +kernel), List.mem_of_getElem? (i := 698) (by decide +kernel)⟩
theorem lw_p12 : lw_okq (⟨"Segmentry$Matcher", "dividePass", "(LSegmentry$Message;LSegmentry$Entry;II)I"⟩, 6) := ⟨⟨by decide +kernel, by decide +kernel⟩, List.mem_of_getElem? (i := 149) (by decide +kernel), List.mem_of_getElem? (i := 708) (by decide +kernel), List.mem_of_getElem? (i := 709) (by decide +kernel)⟩
theorem lw_p13 : lw_okq (⟨"Segmentry$Matcher", "greatestTimes", "(II)I"⟩, 6) := ⟨⟨by decide +kernel, by decide +kernel⟩, List.mem_of_getElem? (i := 149) (by decide +kernel), List.mem_of_getElem? (i := 712) (by decide +kernel), List.mem_of_getElem? (i := 713) (by decide +kernel)⟩
theorem lw_p14 : lw_okq (⟨"Segmentry$Matcher", "placesBehindEntry", "(LSegmentry$Entry;I)I"⟩, 6) := ⟨⟨by decide +kernel, by decide +kernel⟩, List.mem_of_getElem? (i := 149) (by decide +kernel), List.mem_of_getElem? (i := 724) (by decide +kernel), List.mem_of_getElem? (i := 725) (by decide +kernel)⟩
theorem lw_p15 : lw_okq (⟨"Segmentry$Matcher", "placesBehindPass", "(LSegmentry$Entry;I)I"⟩, 6) := ⟨⟨by decide +kernel, by decide +kernel⟩, List.mem_of_getElem? (i := 149) (by decide +kernel), List.mem_of_getElem? (i := 728) (by decide +kernel), List.mem_of_getElem? (i := 729) (by decide +kernel)⟩
def lw_privs_1 : List (MethodName × Nat) := [(⟨"java/lang/Throwable", "fillInStackTrace", "(I)Ljava/lang/Throwable;"⟩, 6), (⟨"Segmentry$Schema", "appendEntry", "(ZII)V"⟩, 7), (⟨"Segmentry$Reader", "split", "(LSegmentry$Sheet;LSegmentry$Message;)V"⟩, 2), (⟨"Segmentry$Reader", "takeSegment", "(LSegmentry$Sheet;IILSegmentry$Segment;)V"⟩, 2), (⟨"Segmentry$Reader", "takeElement", "(LSegmentry$Sheet;IILSegmentry$Segment;)V"⟩, 2), (⟨"Segmentry$Reader", "checkEnvelope", "(LSegmentry$Message;)V"⟩, 2), (⟨"Segmentry$Reader", "checkNumbers", "(LSegmentry$Message;ZI)V"⟩, 2), (⟨"Segmentry$Reader", "checkBody", "(LSegmentry$Message;)V"⟩, 2), (⟨"Segmentry$Matcher", "findMarks", "(LSegmentry$Message;)V"⟩, 6), (⟨"Segmentry$Matcher", "findAfters", "(LSegmentry$Entry;I)V"⟩, 6), (⟨"Segmentry$Matcher", "placesBeforePass", "(LSegmentry$Entry;I)I"⟩, 6), (⟨"Segmentry$Matcher", "placesBeforeItem", "(IIII)I"⟩, 6), (⟨"Segmentry$Matcher", "dividePass", "(LSegmentry$Message;LSegmentry$Entry;II)I"⟩, 6), (⟨"Segmentry$Matcher", "greatestTimes", "(II)I"⟩, 6), (⟨"Segmentry$Matcher", "placesBehindEntry", "(LSegmentry$Entry;I)I"⟩, 6), (⟨"Segmentry$Matcher", "placesBehindPass", "(LSegmentry$Entry;I)I"⟩, 6)]
theorem lw_r1 : ∀ q ∈ lw_privs_1, lw_okq q := List.forall_mem_cons.mpr ⟨lw_p0, List.forall_mem_cons.mpr ⟨lw_p1, List.forall_mem_cons.mpr ⟨lw_p2, List.forall_mem_cons.mpr ⟨lw_p3, List.forall_mem_cons.mpr ⟨lw_p4, List.forall_mem_cons.mpr ⟨lw_p5, List.forall_mem_cons.mpr ⟨lw_p6, List.forall_mem_cons.mpr ⟨lw_p7, List.forall_mem_cons.mpr ⟨lw_p8, List.forall_mem_cons.mpr ⟨lw_p9, List.forall_mem_cons.mpr ⟨lw_p10, List.forall_mem_cons.mpr ⟨lw_p11, List.forall_mem_cons.mpr ⟨lw_p12, List.forall_mem_cons.mpr ⟨lw_p13, List.forall_mem_cons.mpr ⟨lw_p14, List.forall_mem_cons.mpr ⟨lw_p15, fun _ h => absurd h List.not_mem_nil⟩⟩⟩⟩⟩⟩⟩⟩⟩⟩⟩⟩⟩⟩⟩⟩
theorem lw_p16 : lw_okq (⟨"Segmentry$Matcher", "placesBehindItem", "(IIII)I"⟩, 6) := ⟨⟨by decide +kernel, by decide +kernel⟩, List.mem_of_getElem? (i := 149) (by decide +kernel), List.mem_of_getElem? (i := 732) (by decide +kernel), List.mem_of_getElem? (i := 733) (by decide +kernel)⟩
theorem lw_p17 : lw_okq (⟨"Segmentry", "acceptDraft", "()V"⟩, 13) := ⟨⟨by decide +kernel, by decide +kernel⟩, List.mem_of_getElem? (i := 23) (by decide +kernel), List.mem_of_getElem? (i := 738) (by decide +kernel), List.mem_of_getElem? (i := 739) (by decide +kernel)⟩
theorem lw_p18 : lw_okq (⟨"Segmentry", "needFault", "(I)V"⟩, 13) := ⟨⟨by decide +kernel, by decide +kernel⟩, List.mem_of_getElem? (i := 23) (by decide +kernel), List.mem_of_getElem? (i := 752) (by decide +kernel), List.mem_of_getElem? (i := 753) (by decide +kernel)⟩
theorem lw_p19 : lw_okq (⟨"Segmentry", "needMessage", "()V"⟩, 13) := ⟨⟨by decide +kernel, by decide +kernel⟩, List.mem_of_getElem? (i := 23) (by decide +kernel), List.mem_of_getElem? (i := 818) (by decide +kernel), List.mem_of_getElem? (i := 819) (by decide +kernel)⟩
theorem lw_p20 : lw_okq (⟨"Segmentry", "needSegment", "(I)V"⟩, 13) := ⟨⟨by decide +kernel, by decide +kernel⟩, List.mem_of_getElem? (i := 23) (by decide +kernel), List.mem_of_getElem? (i := 831) (by decide +kernel), List.mem_of_getElem? (i := 832) (by decide +kernel)⟩
theorem lw_p21 : lw_okq (⟨"Segmentry", "needElement", "(II)V"⟩, 13) := ⟨⟨by decide +kernel, by decide +kernel⟩, List.mem_of_getElem? (i := 23) (by decide +kernel), List.mem_of_getElem? (i := 853) (by decide +kernel), List.mem_of_getElem? (i := 854) (by decide +kernel)⟩
theorem lw_p22 : lw_okq (⟨"Segmentry", "needRule", "(I)V"⟩, 13) := ⟨⟨by decide +kernel, by decide +kernel⟩, List.mem_of_getElem? (i := 23) (by decide +kernel), List.mem_of_getElem? (i := 919) (by decide +kernel), List.mem_of_getElem? (i := 920) (by decide +kernel)⟩
theorem lw_p23 : lw_okq (⟨"Segmentry$RuleBook", "putBody", "(LSegmentry$Message;LSegmentry$Sheet;)I"⟩, 3) := ⟨⟨by decide +kernel, by decide +kernel⟩, List.mem_of_getElem? (i := 181) (by decide +kernel), List.mem_of_getElem? (i := 972) (by decide +kernel), List.mem_of_getElem? (i := 973) (by decide +kernel)⟩
theorem lw_p24 : lw_okq (⟨"Segmentry$Rule", "holdsFor", "(LSegmentry$Segment;)Z"⟩, 6) := ⟨⟨by decide +kernel, by decide +kernel⟩, List.mem_of_getElem? (i := 188) (by decide +kernel), List.mem_of_getElem? (i := 983) (by decide +kernel), List.mem_of_getElem? (i := 984) (by decide +kernel)⟩
theorem lw_p25 : lw_okq (⟨"SegmentryModel", "isFine", "(I)Z"⟩, 49) := ⟨⟨by decide +kernel, by decide +kernel⟩, List.mem_of_getElem? (i := 1027) (by decide +kernel), List.mem_of_getElem? (i := 1196) (by decide +kernel), List.mem_of_getElem? (i := 1197) (by decide +kernel)⟩
theorem lw_p26 : lw_okq (⟨"SegmentryModel", "splits", "()V"⟩, 49) := ⟨⟨by decide +kernel, by decide +kernel⟩, List.mem_of_getElem? (i := 1027) (by decide +kernel), List.mem_of_getElem? (i := 1232) (by decide +kernel), List.mem_of_getElem? (i := 1233) (by decide +kernel)⟩
theorem lw_p27 : lw_okq (⟨"SegmentryModel", "endOf", "(I)I"⟩, 49) := ⟨⟨by decide +kernel, by decide +kernel⟩, List.mem_of_getElem? (i := 1027) (by decide +kernel), List.mem_of_getElem? (i := 1236) (by decide +kernel), List.mem_of_getElem? (i := 1237) (by decide +kernel)⟩
theorem lw_p28 : lw_okq (⟨"SegmentryModel", "parts", "(II)V"⟩, 49) := ⟨⟨by decide +kernel, by decide +kernel⟩, List.mem_of_getElem? (i := 1027) (by decide +kernel), List.mem_of_getElem? (i := 1240) (by decide +kernel), List.mem_of_getElem? (i := 1241) (by decide +kernel)⟩
theorem lw_p29 : lw_okq (⟨"SegmentryModel", "fault", "(II)V"⟩, 49) := ⟨⟨by decide +kernel, by decide +kernel⟩, List.mem_of_getElem? (i := 1027) (by decide +kernel), List.mem_of_getElem? (i := 1244) (by decide +kernel), List.mem_of_getElem? (i := 1245) (by decide +kernel)⟩
theorem lw_p30 : lw_okq (⟨"SegmentryModel", "envelope", "()V"⟩, 49) := ⟨⟨by decide +kernel, by decide +kernel⟩, List.mem_of_getElem? (i := 1027) (by decide +kernel), List.mem_of_getElem? (i := 1248) (by decide +kernel), List.mem_of_getElem? (i := 1249) (by decide +kernel)⟩
theorem lw_p31 : lw_okq (⟨"SegmentryModel", "numberIn", "(II)I"⟩, 49) := ⟨⟨by decide +kernel, by decide +kernel⟩, List.mem_of_getElem? (i := 1027) (by decide +kernel), List.mem_of_getElem? (i := 1252) (by decide +kernel), List.mem_of_getElem? (i := 1253) (by decide +kernel)⟩
def lw_privs_2 : List (MethodName × Nat) := [(⟨"Segmentry$Matcher", "placesBehindItem", "(IIII)I"⟩, 6), (⟨"Segmentry", "acceptDraft", "()V"⟩, 13), (⟨"Segmentry", "needFault", "(I)V"⟩, 13), (⟨"Segmentry", "needMessage", "()V"⟩, 13), (⟨"Segmentry", "needSegment", "(I)V"⟩, 13), (⟨"Segmentry", "needElement", "(II)V"⟩, 13), (⟨"Segmentry", "needRule", "(I)V"⟩, 13), (⟨"Segmentry$RuleBook", "putBody", "(LSegmentry$Message;LSegmentry$Sheet;)I"⟩, 3), (⟨"Segmentry$Rule", "holdsFor", "(LSegmentry$Segment;)Z"⟩, 6), (⟨"SegmentryModel", "isFine", "(I)Z"⟩, 49), (⟨"SegmentryModel", "splits", "()V"⟩, 49), (⟨"SegmentryModel", "endOf", "(I)I"⟩, 49), (⟨"SegmentryModel", "parts", "(II)V"⟩, 49), (⟨"SegmentryModel", "fault", "(II)V"⟩, 49), (⟨"SegmentryModel", "envelope", "()V"⟩, 49), (⟨"SegmentryModel", "numberIn", "(II)I"⟩, 49)]
theorem lw_r2 : ∀ q ∈ lw_privs_2, lw_okq q := List.forall_mem_cons.mpr ⟨lw_p16, List.forall_mem_cons.mpr ⟨lw_p17, List.forall_mem_cons.mpr ⟨lw_p18, List.forall_mem_cons.mpr ⟨lw_p19, List.forall_mem_cons.mpr ⟨lw_p20, List.forall_mem_cons.mpr ⟨lw_p21, List.forall_mem_cons.mpr ⟨lw_p22, List.forall_mem_cons.mpr ⟨lw_p23, List.forall_mem_cons.mpr ⟨lw_p24, List.forall_mem_cons.mpr ⟨lw_p25, List.forall_mem_cons.mpr ⟨lw_p26, List.forall_mem_cons.mpr ⟨lw_p27, List.forall_mem_cons.mpr ⟨lw_p28, List.forall_mem_cons.mpr ⟨lw_p29, List.forall_mem_cons.mpr ⟨lw_p30, List.forall_mem_cons.mpr ⟨lw_p31, fun _ h => absurd h List.not_mem_nil⟩⟩⟩⟩⟩⟩⟩⟩⟩⟩⟩⟩⟩⟩⟩⟩
theorem lw_p32 : lw_okq (⟨"SegmentryModel", "numbers", "()V"⟩, 49) := ⟨⟨by decide +kernel, by decide +kernel⟩, List.mem_of_getElem? (i := 1027) (by decide +kernel), List.mem_of_getElem? (i := 1256) (by decide +kernel), List.mem_of_getElem? (i := 1257) (by decide +kernel)⟩
theorem lw_p33 : lw_okq (⟨"SegmentryModel", "matches", "()V"⟩, 49) := ⟨⟨by decide +kernel, by decide +kernel⟩, List.mem_of_getElem? (i := 1027) (by decide +kernel), List.mem_of_getElem? (i := 1260) (by decide +kernel), List.mem_of_getElem? (i := 1261) (by decide +kernel)⟩
theorem lw_p34 : lw_okq (⟨"SegmentryModel", "hopes", "(I)V"⟩, 49) := ⟨⟨by decide +kernel, by decide +kernel⟩, List.mem_of_getElem? (i := 1027) (by decide +kernel), List.mem_of_getElem? (i := 1264) (by decide +kernel), List.mem_of_getElem? (i := 1265) (by decide +kernel)⟩
theorem lw_p35 : lw_okq (⟨"SegmentryModel", "canEnd", "(I)Z"⟩, 49) := ⟨⟨by decide +kernel, by decide +kernel⟩, List.mem_of_getElem? (i := 1027) (by decide +kernel), List.mem_of_getElem? (i := 1268) (by decide +kernel), List.mem_of_getElem? (i := 1269) (by decide +kernel)⟩
theorem lw_p36 : lw_okq (⟨"SegmentryModel", "isSkipped", "(I)Z"⟩, 49) := ⟨⟨by decide +kernel, by decide +kernel⟩, List.mem_of_getElem? (i := 1027) (by decide +kernel), List.mem_of_getElem? (i := 1272) (by decide +kernel), List.mem_of_getElem? (i := 1273) (by decide +kernel)⟩
theorem lw_p37 : lw_okq (⟨"SegmentryModel", "leads", "(IC)V"⟩, 49) := ⟨⟨by decide +kernel, by decide +kernel⟩, List.mem_of_getElem? (i := 1027) (by decide +kernel), List.mem_of_getElem? (i := 1276) (by decide +kernel), List.mem_of_getElem? (i := 1277) (by decide +kernel)⟩
theorem lw_p38 : lw_okq (⟨"SegmentryModel", "enters", "(IIIC)Z"⟩, 49) := ⟨⟨by decide +kernel, by decide +kernel⟩, List.mem_of_getElem? (i := 1027) (by decide +kernel), List.mem_of_getElem? (i := 1280) (by decide +kernel), List.mem_of_getElem? (i := 1281) (by decide +kernel)⟩
theorem lw_p39 : lw_okq (⟨"SegmentryModel", "isSome", "(I)Z"⟩, 49) := ⟨⟨by decide +kernel, by decide +kernel⟩, List.mem_of_getElem? (i := 1027) (by decide +kernel), List.mem_of_getElem? (i := 1284) (by decide +kernel), List.mem_of_getElem? (i := 1285) (by decide +kernel)⟩
theorem lw_p40 : lw_okq (⟨"SegmentryModel", "viable", "(I)I"⟩, 49) := ⟨⟨by decide +kernel, by decide +kernel⟩, List.mem_of_getElem? (i := 1027) (by decide +kernel), List.mem_of_getElem? (i := 1288) (by decide +kernel), List.mem_of_getElem? (i := 1289) (by decide +kernel)⟩
theorem lw_p41 : lw_okq (⟨"SegmentryModel", "accepts", "()V"⟩, 49) := ⟨⟨by decide +kernel, by decide +kernel⟩, List.mem_of_getElem? (i := 1027) (by decide +kernel), List.mem_of_getElem? (i := 1292) (by decide +kernel), List.mem_of_getElem? (i := 1293) (by decide +kernel)⟩
theorem lw_p42 : lw_okq (⟨"SegmentryModel", "wrong", "(I)I"⟩, 49) := ⟨⟨by decide +kernel, by decide +kernel⟩, List.mem_of_getElem? (i := 1027) (by decide +kernel), List.mem_of_getElem? (i := 1316) (by decide +kernel), List.mem_of_getElem? (i := 1317) (by decide +kernel)⟩
theorem lw_p43 : lw_okq (⟨"SegmentryModel", "wrongElement", "(II)I"⟩, 49) := ⟨⟨by decide +kernel, by decide +kernel⟩, List.mem_of_getElem? (i := 1027) (by decide +kernel), List.mem_of_getElem? (i := 1328) (by decide +kernel), List.mem_of_getElem? (i := 1329) (by decide +kernel)⟩
theorem lw_p44 : lw_okq (⟨"SegmentryModel", "drafts", "()I"⟩, 49) := ⟨⟨by decide +kernel, by decide +kernel⟩, List.mem_of_getElem? (i := 1027) (by decide +kernel), List.mem_of_getElem? (i := 1360) (by decide +kernel), List.mem_of_getElem? (i := 1361) (by decide +kernel)⟩
theorem lw_p45 : lw_okq (⟨"SegmentryModel", "puts", "(C)V"⟩, 49) := ⟨⟨by decide +kernel, by decide +kernel⟩, List.mem_of_getElem? (i := 1027) (by decide +kernel), List.mem_of_getElem? (i := 1364) (by decide +kernel), List.mem_of_getElem? (i := 1365) (by decide +kernel)⟩
theorem lw_p46 : lw_okq (⟨"SegmentryModel", "putsNumber", "(I)V"⟩, 49) := ⟨⟨by decide +kernel, by decide +kernel⟩, List.mem_of_getElem? (i := 1027) (by decide +kernel), List.mem_of_getElem? (i := 1368) (by decide +kernel), List.mem_of_getElem? (i := 1369) (by decide +kernel)⟩
theorem lw_p47 : lw_okq (⟨"SegmentryModel", "isWriting", "(II)Z"⟩, 49) := ⟨⟨by decide +kernel, by decide +kernel⟩, List.mem_of_getElem? (i := 1027) (by decide +kernel), List.mem_of_getElem? (i := 1372) (by decide +kernel), List.mem_of_getElem? (i := 1373) (by decide +kernel)⟩
def lw_privs_3 : List (MethodName × Nat) := [(⟨"SegmentryModel", "numbers", "()V"⟩, 49), (⟨"SegmentryModel", "matches", "()V"⟩, 49), (⟨"SegmentryModel", "hopes", "(I)V"⟩, 49), (⟨"SegmentryModel", "canEnd", "(I)Z"⟩, 49), (⟨"SegmentryModel", "isSkipped", "(I)Z"⟩, 49), (⟨"SegmentryModel", "leads", "(IC)V"⟩, 49), (⟨"SegmentryModel", "enters", "(IIIC)Z"⟩, 49), (⟨"SegmentryModel", "isSome", "(I)Z"⟩, 49), (⟨"SegmentryModel", "viable", "(I)I"⟩, 49), (⟨"SegmentryModel", "accepts", "()V"⟩, 49), (⟨"SegmentryModel", "wrong", "(I)I"⟩, 49), (⟨"SegmentryModel", "wrongElement", "(II)I"⟩, 49), (⟨"SegmentryModel", "drafts", "()I"⟩, 49), (⟨"SegmentryModel", "puts", "(C)V"⟩, 49), (⟨"SegmentryModel", "putsNumber", "(I)V"⟩, 49), (⟨"SegmentryModel", "isWriting", "(II)Z"⟩, 49)]
theorem lw_r3 : ∀ q ∈ lw_privs_3, lw_okq q := List.forall_mem_cons.mpr ⟨lw_p32, List.forall_mem_cons.mpr ⟨lw_p33, List.forall_mem_cons.mpr ⟨lw_p34, List.forall_mem_cons.mpr ⟨lw_p35, List.forall_mem_cons.mpr ⟨lw_p36, List.forall_mem_cons.mpr ⟨lw_p37, List.forall_mem_cons.mpr ⟨lw_p38, List.forall_mem_cons.mpr ⟨lw_p39, List.forall_mem_cons.mpr ⟨lw_p40, List.forall_mem_cons.mpr ⟨lw_p41, List.forall_mem_cons.mpr ⟨lw_p42, List.forall_mem_cons.mpr ⟨lw_p43, List.forall_mem_cons.mpr ⟨lw_p44, List.forall_mem_cons.mpr ⟨lw_p45, List.forall_mem_cons.mpr ⟨lw_p46, List.forall_mem_cons.mpr ⟨lw_p47, fun _ h => absurd h List.not_mem_nil⟩⟩⟩⟩⟩⟩⟩⟩⟩⟩⟩⟩⟩⟩⟩⟩
theorem lw_p48 : lw_okq (⟨"SegmentryModel", "putsContent", "(II)V"⟩, 49) := ⟨⟨by decide +kernel, by decide +kernel⟩, List.mem_of_getElem? (i := 1027) (by decide +kernel), List.mem_of_getElem? (i := 1376) (by decide +kernel), List.mem_of_getElem? (i := 1377) (by decide +kernel)⟩
def lw_privs_4 : List (MethodName × Nat) := [(⟨"SegmentryModel", "putsContent", "(II)V"⟩, 49)]
theorem lw_r4 : ∀ q ∈ lw_privs_4, lw_okq q := List.forall_mem_cons.mpr ⟨lw_p48, fun _ h => absurd h List.not_mem_nil⟩
def lw_privs : List (MethodName × Nat) := lw_privs_1 ++ (lw_privs_2 ++ (lw_privs_3 ++ (lw_privs_4)))
def lw_tbl : List Cond := k2_sels lw_privs ++ tables_1
theorem lw_privs_ok : ∀ q ∈ lw_privs, lw_okq q := by
  show ∀ q ∈ lw_privs_1 ++ (lw_privs_2 ++ (lw_privs_3 ++ (lw_privs_4))), lw_okq q
  exact List.forall_mem_append.mpr ⟨lw_r1, List.forall_mem_append.mpr ⟨lw_r2, List.forall_mem_append.mpr ⟨lw_r3, lw_r4⟩⟩⟩
end
section
/-! ===== BEGIN exceptions that leave a method, and their catching by the caller (launches without stack traces) ===== -/
section VXA
/-! The laws vx_back, vx_callV, vx_callS, vx_callSW, vx_throw0, vx_throwS follow proofs of the library, with one case more: JvmDerived/Free/Laws.lean (Back.of_free), Shelf42/LK1.lean (callV, callS), Shelf/KitTraced.lean (throwNew0V, throwNewS). -/
/-- where a method has thrown q: the class by its name, the cell, what was written, the world -/
def vx_T (XC : String → State → State → Prop) (st : State) (q : Addr) (t : State) (mc ms : Nat) (free : Addr → Prop) : Prop :=
  ∃ (E : String) (ce : Cell) (L : List Loc), XC E st t ∧ t.heap[q]? = some ce ∧ ce.vm = .none ∧ st.vm.findClass E = some ce.cls ∧ st.WarmedH t.vm ∧ st.sameButNew ({ t with vm := st.vm } : State) L mc ms ∧ ∀ z ∈ L, free z.base
def vx_Q (Qc : Array Value → State → Outcome → State → Prop) (XC : String → State → State → Prop) (mc ms : Nat) (free : Addr → Prop) : Array Value → State → Outcome → State → Prop := fun a st o t =>
  (Qc a st o t ∧ ∃ L, FrameEnd st o t L mc ms ∧ ∀ q ∈ L, free q.base) ∨ ∃ q, o = .threw q ∧ vx_T XC st q t mc ms free
/-- a callee that returns or throws -/
def vx_Met (l : Launch) (y : MethodName) (ws : List Cond) (rm : Room) (Pc : Array Value → State → Prop) (Qc : Array Value → State → Outcome → State → Prop) (XC : String → State → State → Prop) (mc ms : Nat) (free : Addr → Prop) : Prop :=
  MetFree l y (headSpec ws rm) Pc (fun _ _ _ _ _ => True) (vx_Q Qc XC mc ms free)
def vx_Post (XC : String → State → State → Prop) (mc ms : Nat) (free : Addr → Prop) : Pt → Array Value → Addr → Pt → Prop := fun A a q B =>
  ∃ (g : JFrame) (mk : MethodId) (t : State) (L : List Loc) (E : String) (ce : Cell), B.U.heap = t.heap ∧ B.U.vm = t.vm ∧ XC E (A.U.calling g mk a) t ∧ t.heap[q]? = some ce ∧ ce.vm = .none ∧ A.U.vm.findClass E = some ce.cls ∧ B.locs = A.locs ++ L ∧ (∀ z ∈ L, free z.base) ∧ B.cells = A.cells + mc ∧ B.slots = A.slots + ms
def vx_Back (l : Launch) (R : Room) (p : Program) (e : Env) (below : List Frame) (s : State) (sargs : Array Value) (y : MethodName) (len W9 : Nat)
    (Pre : Pt → Array Value → Prop) (Post : Pt → Array Value → Option Value → Pt → Prop) (PostX : Pt → Array Value → Addr → Pt → Prop) : Prop :=
  ∀ (m : MethodId) (meth : Method) (c : Code) (A : Pt) (g : JFrame) (ig : Instr) (mk : MethodId) (a : Array Value),
    Stand p l e R s m sargs below meth c A.U A.locs A.cells A.slots → g.method = m → g.locals.size = c.maxLocals → decode c.code g.pc = .ok (ig, len) →
    2 * g.monitorRoom + (g.stack.map fun v => v.category).sum ≤ W9 → A.U.methodNamed? y = some mk → Pre A a →
    (∃ (v : Option Value) (B : Pt), Stand p l e R s m sargs below meth c B.U B.locs B.cells B.slots ∧ Post A a v B ∧
      Steps p.tables e below (doInvoke e (A.U.setTop g) [] mk a).1 (B.U.setTop { g with pc := g.pc + len, stack := v.toList ++ g.stack })) ∨
    (∃ (q : Addr) (B : Pt), Stand p l e R s m sargs below meth c B.U B.locs B.cells B.slots ∧ PostX A a q B ∧
      Steps p.tables e below (doInvoke e (A.U.setTop g) [] mk a).1 ((B.U.setTop g).pushFrame (.throwing q)))
section Payer
variable {l : Launch} {R : Room} {p : Program} {e : Env} {below : List Frame} {s : State} {sargs : Array Value} {y : MethodName} {len W9 : Nat}
theorem vx_back {ws : List Cond} {rm : Room} {Pc : Array Value → State → Prop} {Qc : Array Value → State → Outcome → State → Prop} {XC : String → State → State → Prop} {mc ms : Nat} {free : Addr → Prop} {bytes : ByteArray} {maxL : Nat} {ret : Option FieldType}
    (hM : vx_Met l y ws rm Pc Qc XC mc ms free) (hblind : FrameBlind Pc) (hrc : rm.cells = mc) (hrs : rm.slots = ms)
    (hframes : rm.frames + 1 ≤ R.frames) (hlocals : W9 + (maxL + 11) + rm.locals ≤ R.locals)
    (hws : ∀ w ∈ ws, ∀ a' U, s.WarmedH U.vm → w.before a' U = true) (hcode : Cond.code y bytes maxL ret ∈ ws) (hinit : ∀ a' U, s.WarmedH U.vm → (Cond.initialized y.cls).before a' U = true) :
    vx_Back l R p e below s sargs y len W9 (PreOf R mc ms Pc) (PostOf Qc mc ms free) (vx_Post XC mc ms free) := by
  intro m meth c A g ig mk a X hg hsize hdg hW hn hp
  have h1 : (headSpec ws rm).pre.before a A.U = true := atoms_intro fun w hw => hws w hw _ _ X.warmed
  have h2 : (Cond.code y bytes maxL ret).before a A.U = true := hws _ hcode _ _ X.warmed
  have h3 : (Cond.initialized y.cls).before a A.U = true := hinit _ _ X.warmed
  have h4 : A.cells + (headSpec ws rm).room.cells ≤ R.cells := by rw [show (headSpec ws rm).room.cells = mc from hrc]; exact hp.1
  have h5 : A.slots + (headSpec ws rm).room.slots ≤ R.slots := by rw [show (headSpec ws rm).room.slots = ms from hrs]; exact hp.2.1
  have hPc : Pc a (A.U.calling g mk a) := hblind _ _ _ _ hp.2.2
  obtain ⟨U, Ls, c0, s0⟩ := A
  dsimp only [Pt.U, Pt.locs, Pt.cells, Pt.slots] at h1 h2 h3 h4 h5 X hn hPc ⊢
  obtain ⟨methY, cY, hmY, hcY, -, hlY, -, -, -, -⟩ := Cond.code_spec hn h2
  obtain ⟨kY, hkY, -⟩ := className_of_methodNamed hn
  have hinitY : kY.init = .initialized := Cond.initialized_spec (findClass_of_methodNamed hn) hkY h3
  have h : At U g.method c below := by rw [hg]; exact X.here
  have hlocals9 : W9 + (maxL + 11) + (headSpec ws rm).room.locals ≤ R.locals := hlocals
  have happ : (headSpec ws rm).appliesLoose y e.platform (U.calling g mk a) = true :=
    Spec.appliesLoose_calling (g := g) h hdg hn hkY hinitY
      (X.room_calling (g := g) (R' := (headSpec ws rm).room) hsize hmY hcY hframes (by rw [hlY]; omega) h4 h5) h1
  obtain ⟨mid, hmid⟩ := h.above
  have hfr : (U.setTop g).frames = (.java g :: mid) ++ below := by rw [State.frames_setTop' g h.top, hmid]; rfl
  obtain ⟨o, s₂, hsteps, -, hend, hq⟩ := Steps.callFree hM p X.admits X.cas X.clock (acts := []) hfr happ hPc trivial
  have hq' : vx_Q Qc XC mc ms free a (U.calling g mk a) o s₂ := hq
  rw [State.frames_setTop' g h.top] at hend
  obtain ⟨g₀, hg0⟩ := Option.isSome_iff_exists.mp h.top
  obtain ⟨r, hr⟩ := State.topJava?_eq_some.mp hg0
  have hr' : (({ U with heap := s₂.heap, slotsUsed := s₂.slotsUsed } : State).setVm s₂.vm).frames = .java g₀ :: r := hr
  rcases hq' with ⟨hqc, L, hfe, hL⟩ | ⟨q, rfl, E, ce, L, hx, hce, hcv, hcl, hW₂, hsm, hL⟩
  · obtain ⟨⟨v, rfl⟩, hW₂, e2, q2, q3, q4, q5, q6⟩ := id hfe
    have e3 : s₂ = ({ (U.calling g mk a).setFrames s₂.frames with heap := s₂.heap, slotsUsed := s₂.slotsUsed } : State).setVm s₂.vm := by
      have : s₂ = ({ s₂ with vm := (U.calling g mk a).vm } : State).setVm s₂.vm := rfl
      rw [e2] at this
      exact this
    obtain ⟨c₂, i₂, len₂, hc₂, hd₂, hf₂⟩ := hend
    have hW' : U.WarmedH s₂.vm := hW₂
    have hcc : c₂ = c := by
      have h1 : s₂.code? g.method = U.code? g.method := by
        rw [State.code?_eq, State.code?_eq, hW'.alike.method?]
      exact Option.some.inj (hc₂.symm.trans (h1.trans h.code))
    subst hcc
    have hlen : len₂ = len := by rw [hdg] at hd₂; cases hd₂; rfl
    subst hlen
    have hs₂ : s₂ = (({ U with heap := s₂.heap, slotsUsed := s₂.slotsUsed } : State).setVm s₂.vm).setTop { g with pc := g.pc + len₂, stack := v.toList ++ g.stack } := by
      refine e3.trans ?_
      rw [hf₂, State.calling_eq h.top, State.setFrames_setFrames, State.setTop_of_frames _ hr', hr]
      rfl
    have hsame : U.sameButNew ({ U with heap := s₂.heap, slotsUsed := s₂.slotsUsed } : State) L mc ms := by
      refine ⟨?_, q2, q3, q4, q5, q6⟩
      obtain ⟨t, ht, -⟩ := State.frames_cons hr
      show ({ U with heap := s₂.heap, slotsUsed := s₂.slotsUsed } : State) = { U.setFrames U.frames with heap := s₂.heap, slotsUsed := s₂.slotsUsed }
      rw [State.setFrames_self ht]
    subst hg
    refine Or.inl ⟨v, ⟨(({ U with heap := s₂.heap, slotsUsed := s₂.slotsUsed } : State).setVm s₂.vm), Ls ++ L, c0 + mc, s0 + ms⟩,
      ⟨X.admits, X.cas, X.clock, X.frames, X.room, X.hears, X.method, X.code, (X.here.setHeapUsed s₂.heap s₂.slotsUsed).setVm hW'.alike, X.tail, State.WarmedH.trans X.warmed hW', X.limits, X.bytes, X.same.trans (hsame.setVm s.vm)⟩,
      ⟨g, mk, s₂, L, rfl, rfl, hqc, rfl, hL, rfl, rfl⟩, ?_⟩
    show Steps p.tables e below _ ((({ U with heap := s₂.heap, slotsUsed := s₂.slotsUsed } : State).setVm s₂.vm).setTop { g with pc := g.pc + len₂, stack := v.toList ++ g.stack })
    rw [← hs₂]
    exact hsteps
  · obtain ⟨e2, q2, q3, q4, q5, q6⟩ := id hsm
    have e3 : s₂ = ({ (U.calling g mk a).setFrames s₂.frames with heap := s₂.heap, slotsUsed := s₂.slotsUsed } : State).setVm s₂.vm := by
      have : s₂ = ({ s₂ with vm := (U.calling g mk a).vm } : State).setVm s₂.vm := rfl
      rw [e2] at this
      exact this
    have hf₂ : s₂.frames = .throwing q :: .java g :: U.frames.tail := hend
    have hW' : U.WarmedH s₂.vm := hW₂
    have hs₂ : s₂ = ((({ U with heap := s₂.heap, slotsUsed := s₂.slotsUsed } : State).setVm s₂.vm).setTop g).pushFrame (.throwing q) := by
      refine e3.trans ?_
      rw [hf₂, State.calling_eq h.top, State.setFrames_setFrames, State.pushFrame, State.frames_setTop _ hr', State.setTop_of_frames _ hr', State.setFrames_setFrames, hr]
      rfl
    have hsame : U.sameButNew ({ U with heap := s₂.heap, slotsUsed := s₂.slotsUsed } : State) L mc ms := by
      refine ⟨?_, q2, q3, q4, q5, q6⟩
      obtain ⟨t, ht, -⟩ := State.frames_cons hr
      show ({ U with heap := s₂.heap, slotsUsed := s₂.slotsUsed } : State) = { U.setFrames U.frames with heap := s₂.heap, slotsUsed := s₂.slotsUsed }
      rw [State.setFrames_self ht]
    subst hg
    refine Or.inr ⟨q, ⟨(({ U with heap := s₂.heap, slotsUsed := s₂.slotsUsed } : State).setVm s₂.vm), Ls ++ L, c0 + mc, s0 + ms⟩,
      ⟨X.admits, X.cas, X.clock, X.frames, X.room, X.hears, X.method, X.code, (X.here.setHeapUsed s₂.heap s₂.slotsUsed).setVm hW'.alike, X.tail, State.WarmedH.trans X.warmed hW', X.limits, X.bytes, X.same.trans (hsame.setVm s.vm)⟩,
      ⟨g, mk, s₂, L, E, ce, rfl, rfl, hx, hce, hcv, hcl, rfl, hL, rfl, rfl⟩, ?_⟩
    show Steps p.tables e below _ (((({ U with heap := s₂.heap, slotsUsed := s₂.slotsUsed } : State).setVm s₂.vm).setTop g).pushFrame (.throwing q))
    rw [← hs₂]
    exact hsteps
end Payer
section Calls
variable {p : Program} {l : Launch} {e : Env} {R : Room} {s : State} {m : MethodId} {args : Array Value} {below : List Frame} {meth : Method} {c : Code} {T : State} {locs : List Loc} {cells slots : Nat}
theorem vx_callV (X : Stand p l e R s m args below meth c T locs cells slots) (hexec : p.tables.exec = Jvm.exec) {own C : String} {index : Nat} {y : MethodName} {bytes : ByteArray} {maxL : Nat} {ret : Option FieldType}
    (hown : s.vm.findClass own = some m.cls) (hlink : (Cond.methodLink own index y).before args s = true) (hinst : (Cond.instanceMethod y).before args s = true) (hsel : (Cond.selects C y y).before args s = true)
    (hcode : (Cond.code y bytes maxL ret).before args s = true) (hy : y.cls ≠ "java/lang/invoke/MethodHandle" ∧ y.cls ≠ "java/lang/invoke/VarHandle")
    {W9 : Nat} {Pre : Pt → Array Value → Prop} {Post : Pt → Array Value → Option Value → Pt → Prop} {PostX : Pt → Array Value → Addr → Pt → Prop} (hK : vx_Back l R p e below s args y 3 W9 Pre Post PostX)
    {b : Addr} {cellB : Cell} (hcell : T.heap[b]? = some cellB) (hobj : cellB.vm.isStatics = false) (hcls : s.vm.findClass C = some cellB.cls)
    {g : JFrame} (hg : g.method = m) (hsize : g.locals.size = c.maxLocals) {argsL rest : List Value} (hlen : ∀ sig, parseMethodDescriptor y.desc = some sig → argsL.length = sig.parameters.length)
    (hstack : g.stack = argsL.reverse ++ .ref b :: rest) (hW : 2 * g.monitorRoom + (rest.map fun v => v.category).sum ≤ W9) (hdg : decode c.code g.pc = .ok (.invokevirtual index, 3))
    (hpre : ∀ vm₁, s.WarmedH vm₁ → Pre ⟨T.setVm vm₁, locs, cells, slots⟩ (Value.ref b :: argsL).toArray) :
    (∃ (v : Option Value) (vm₁ : Vm) (B : Pt), s.WarmedH vm₁ ∧ Stand p l e R s m args below meth c B.U B.locs B.cells B.slots ∧ Post ⟨T.setVm vm₁, locs, cells, slots⟩ (Value.ref b :: argsL).toArray v B ∧
      ∀ target, Steps p.tables e below (B.U.setTop { g with pc := g.pc + 3, stack := v.toList ++ rest }) target → Steps p.tables e below (T.setTop g) target) ∨
    (∃ (q : Addr) (vm₁ : Vm) (B : Pt), s.WarmedH vm₁ ∧ Stand p l e R s m args below meth c B.U B.locs B.cells B.slots ∧ PostX ⟨T.setVm vm₁, locs, cells, slots⟩ (Value.ref b :: argsL).toArray q B ∧
      Steps p.tables e below (T.setTop g) ((B.U.setTop { g with stack := rest }).pushFrame (.throwing q))) := by
  obtain ⟨mk, methM, hnamed, hmethM, hstM, habM⟩ := Cond.instanceMethod_spec hinst
  obtain ⟨methM', cM, hmethM', -, -, -, -, -, -, hsigM⟩ := Cond.code_spec hnamed hcode
  cases hmethM.symm.trans hmethM'
  obtain ⟨c2, r2, m2, q1, q2, q3, q4, kP, hkP, hkPi⟩ := Cond.selects_spec hsel
  cases hcls.symm.trans q1
  cases (State.methodFound?_of_named hnamed hy).symm.trans q2
  cases hnamed.symm.trans q3
  have hselP : selectMethod e.platform s.vm cellB.cls mk = .method mk := by rw [Launch.admits_selectMethod X.admits]; exact q4
  obtain ⟨vm₁, X₁, hstep₁⟩ := X.invokevirtual hexec hown hlink hnamed hmethM hstM hkP hkPi hy (a := b) (cell := cellB) hcell
    (fun z h => by rw [h] at hobj; cases hobj) hselP hmethM habM hkP hkPi (g := g) hg (argsL := argsL) (rest := rest) (hlen _ hsigM) hstack hdg
  rcases hK m meth c ⟨T.setVm vm₁, locs, cells, slots⟩ { g with stack := rest } (.invokevirtual index) mk (Value.ref b :: argsL).toArray X₁ hg hsize hdg hW (X₁.named hnamed) (hpre vm₁ X₁.warmed) with ⟨v, B, X', hpost, hsteps⟩ | ⟨q, B, X', hpost, hsteps⟩
  · exact Or.inl ⟨v, vm₁, B, X₁.warmed, X', hpost, fun target h => hstep₁ _ fun acts => by rw [doInvoke_state]; exact hsteps.trans h⟩
  · exact Or.inr ⟨q, vm₁, B, X₁.warmed, X', hpost, hstep₁ _ fun acts => by rw [doInvoke_state]; exact hsteps⟩
theorem vx_callS (X : Stand p l e R s m args below meth c T locs cells slots) (hexec : p.tables.exec = Jvm.exec) {own : String} {index : Nat} {y : MethodName} {bytes : ByteArray} {maxL : Nat} {ret : Option FieldType}
    (hown : s.vm.findClass own = some m.cls) (hlink : (Cond.methodLink own index y).before args s = true) (hstat : (Cond.static y).before args s = true) (hinit : (Cond.initialized y.cls).before args s = true)
    (hcode : (Cond.code y bytes maxL ret).before args s = true) (hy : y.cls ≠ "java/lang/invoke/MethodHandle" ∧ y.cls ≠ "java/lang/invoke/VarHandle")
    {W9 : Nat} {Pre : Pt → Array Value → Prop} {Post : Pt → Array Value → Option Value → Pt → Prop} {PostX : Pt → Array Value → Addr → Pt → Prop} (hK : vx_Back l R p e below s args y 3 W9 Pre Post PostX)
    {g : JFrame} (hg : g.method = m) (hsize : g.locals.size = c.maxLocals) {argsL rest : List Value} (hlen : ∀ sig, parseMethodDescriptor y.desc = some sig → argsL.length = sig.parameters.length)
    (hstack : g.stack = argsL.reverse ++ rest) (hW : 2 * g.monitorRoom + (rest.map fun v => v.category).sum ≤ W9) (hdg : decode c.code g.pc = .ok (.invokestatic index, 3))
    (hpre : ∀ vm₁, s.WarmedH vm₁ → Pre ⟨T.setVm vm₁, locs, cells, slots⟩ argsL.toArray) :
    (∃ (v : Option Value) (vm₁ : Vm) (B : Pt), s.WarmedH vm₁ ∧ Stand p l e R s m args below meth c B.U B.locs B.cells B.slots ∧ Post ⟨T.setVm vm₁, locs, cells, slots⟩ argsL.toArray v B ∧
      ∀ target, Steps p.tables e below (B.U.setTop { g with pc := g.pc + 3, stack := v.toList ++ rest }) target → Steps p.tables e below (T.setTop g) target) ∨
    (∃ (q : Addr) (vm₁ : Vm) (B : Pt), s.WarmedH vm₁ ∧ Stand p l e R s m args below meth c B.U B.locs B.cells B.slots ∧ PostX ⟨T.setVm vm₁, locs, cells, slots⟩ argsL.toArray q B ∧
      Steps p.tables e below (T.setTop g) ((B.U.setTop { g with stack := rest }).pushFrame (.throwing q))) := by
  obtain ⟨mk, hnamed⟩ := Cond.code_named hcode
  obtain ⟨methM, cM, hmethM, -, -, -, -, -, -, hsigM⟩ := Cond.code_spec hnamed hcode
  have hstatic : methM.isStatic = true := Cond.static_spec hnamed hmethM hstat
  obtain ⟨kP, hkP, -⟩ := className_of_methodNamed hnamed
  have hinitP : kP.init = .initialized := Cond.initialized_spec (findClass_of_methodNamed hnamed) hkP hinit
  obtain ⟨vm₁, X₁, hstep₁⟩ := X.invokestatic hexec hown hlink hnamed hmethM hstatic hkP hinitP hy (g := g) hg (argsL := argsL) (rest := rest) (hlen _ hsigM) hstack hdg
  rcases hK m meth c ⟨T.setVm vm₁, locs, cells, slots⟩ { g with stack := rest } (.invokestatic index) mk argsL.toArray X₁ hg hsize hdg hW (X₁.named hnamed) (hpre vm₁ X₁.warmed) with ⟨v, B, X', hpost, hsteps⟩ | ⟨q, B, X', hpost, hsteps⟩
  · exact Or.inl ⟨v, vm₁, B, X₁.warmed, X', hpost, fun target h => hstep₁ _ fun acts => by rw [doInvoke_state]; exact hsteps.trans h⟩
  · exact Or.inr ⟨q, vm₁, B, X₁.warmed, X', hpost, hstep₁ _ fun acts => by rw [doInvoke_state]; exact hsteps⟩
end Calls
theorem vx_cls {s : State} {T : State} {vm₁ : Vm} {E : String} {k : ClassId} (hW : s.WarmedH vm₁) (h : (T.setVm vm₁).vm.findClass E = some k) : s.vm.findClass E = some k := by
  have h1 : vm₁.findClass E = some k := h
  rw [hW.alike.findClass] at h1
  exact h1
/-- the method's frame g, with q thrown over it -/
def vx_W (p : Program) (l : Launch) (e : Env) (R : Room) (s : State) (m : MethodId) (args : Array Value) (below : List Frame) (meth : Method) (c : Code) (H : Heap) (locs : List Loc) (cells slots : Nat) (Q : State → Prop) (g : JFrame) (q : Addr) : Prop :=
  ∀ T : State, T.heap = H → Stand p l e R s m args below meth c T locs cells slots → ∃ t, Steps p.tables e below ((T.setTop g).pushFrame (.throwing q)) t ∧ Q t
def vx_Run (p : Program) (l : Launch) (e : Env) (R : Room) (s : State) (m : MethodId) (args : Array Value) (below : List Frame) (meth : Method) (c : Code) (H : Heap) (locs : List Loc) (cells slots mc ms : Nat) (g : JFrame) (rest : List Value) (Qa : State → Outcome → State → Prop) (XC : String → State → State → Prop) (free : Addr → Prop) : Prop :=
  ∀ T : State, T.heap = H → Stand p l e R s m args below meth c T locs cells slots →
    (∃ (v : Option Value) (st₀ t T' : State) (L : List Loc), st₀.heap = H ∧ Stand p l e R s m args below meth c T' (locs ++ L) (cells + mc) (slots + ms) ∧ (∀ q ∈ L, free q.base) ∧ T'.heap = t.heap ∧ T'.vm = t.vm ∧ Qa st₀ (.returned v) t ∧
      Goes p e below T g T' { g with pc := g.pc + 3, stack := v.toList ++ rest }) ∨
    (∃ (q : Addr) (st₀ t T' : State) (L : List Loc) (E : String) (ce : Cell), st₀.heap = H ∧ Stand p l e R s m args below meth c T' (locs ++ L) (cells + mc) (slots + ms) ∧ (∀ z ∈ L, free z.base) ∧ T'.heap = t.heap ∧ T'.vm = t.vm ∧ XC E st₀ t ∧ t.heap[q]? = some ce ∧ ce.vm = .none ∧ s.vm.findClass E = some ce.cls ∧
      Steps p.tables e below (T.setTop g) ((T'.setTop { g with stack := rest }).pushFrame (.throwing q)))
def vx_X {S : Type} (px : S → Prop) (B : String → S → State → Prop) (A : Nat → Prop) : String → State → State → Prop := fun E st t => ∃ u : S, px u ∧ B E u t ∧ va_F A st t
section Runs
variable {p : Program} {l : Launch} {e : Env} {R : Room} {s : State} {m : MethodId} {args : Array Value} {below : List Frame} {meth : Method} {c : Code} {H : Heap} {locs : List Loc} {cells slots : Nat}
variable {y : MethodName} {bytes cc : ByteArray} {maxL nL mc ms n index : Nat} {ret : Option FieldType} {ws : List Cond} {rm : Room} {Pc : Array Value → State → Prop} {Qc : Array Value → State → Outcome → State → Prop} {XC : String → State → State → Prop} {free : Addr → Prop} {Ts : List Cond} {own C : String} {b : Addr} {As rest : List Value} {g : JFrame}
theorem vx_callBack (cb : CallB R s args own index y bytes maxL ret ws rm mc ms n) (hM : vx_Met l y ws rm Pc Qc XC mc ms free) (hbl : FrameBlind Pc) : vx_Back l R p e below s args y 3 8 (PreOf R mc ms Pc) (PostOf Qc mc ms free) (vx_Post XC mc ms free) := by
  obtain ⟨hrc, hrs, hfr, hlo, hws, hcw, -, hini, -⟩ := cb
  exact vx_back (bytes := bytes) (maxL := maxL) (ret := ret) hM hbl hrc hrs hfr hlo hws hcw (fun a' U hW => word_at hW (Or.inl (by first | rfl | simp [Cond.onTables, Cond.keeps, Cond.steady])) hini)
theorem vx_runV (S : CallFix p m c cc nL s args Ts own) (hM : vx_Met l y ws rm Pc Qc XC mc ms free) (cw : CallW R s args own C index y bytes maxL ret ws rm mc ms n) (hp : PreV s H C b Pc As)
    (hg : g.method = m) (hn : As.length = n) (hsize : g.locals.size = nL) (hstack : g.stack = As.reverse ++ .ref b :: rest) (hW : 2 * g.monitorRoom + (rest.map fun v => v.category).sum ≤ 8) (hdg : decode cc g.pc = .ok (.invokevirtual index, 3)) (hf : cells + mc ≤ R.cells ∧ slots + ms ≤ R.slots) :
    vx_Run p l e R s m args below meth c H locs cells slots mc ms g rest (Qc (Value.ref b :: As).toArray) XC free := by
  have hK : vx_Back l R p e below s args y 3 8 (PreOf R mc ms Pc) (PostOf Qc mc ms free) (vx_Post XC mc ms free) := vx_callBack cw.1 hM hp.1
  obtain ⟨⟨-, -, -, -, -, -, hcode, -, hy, hlen, hl⟩, hin, hse⟩ := cw
  obtain ⟨hx, hb, hml, ho, -⟩ := S
  obtain ⟨-, ⟨cellB, hcB, hoB, hclB⟩, hPc⟩ := hp
  intro T hT X
  rcases vx_callV X hx (C := C) (bytes := bytes) (maxL := maxL) (ret := ret) ho hl hin hse hcode hy hK (by rw [hT]; exact hcB) hoB hclB hg (hsize.trans hml.symm) (argsL := As) (rest := rest) (fun sig h => hn.trans (hlen sig h)) hstack hW (by rw [hb]; exact hdg)
    (fun vm₁ hW₁ => ⟨hf.1, hf.2, hPc (T.setVm vm₁) hT hW₁⟩) with ⟨v, vm₁, ⟨U', l2, c2, s2⟩, hW₁, X', ⟨g', mk, t, L, e1, e2, hq, h1, hL, h2, h3⟩, st⟩ | ⟨q, vm₁, ⟨U', l2, c2, s2⟩, hW₁, X', ⟨g', mk, t, L, E, ce, e1, e2, hq, hce, hcv, hcl, h1, hL, h2, h3⟩, st⟩
  · dsimp only [Pt.U, Pt.locs, Pt.cells, Pt.slots] at X' e1 e2 h1 h2 h3 st
    subst h1; subst h2; subst h3
    exact Or.inl ⟨v, (T.setVm vm₁).calling g' mk (Value.ref b :: As).toArray, t, U', L, hT, X', hL, e1, e2, hq, st⟩
  · dsimp only [Pt.U, Pt.locs, Pt.cells, Pt.slots] at X' e1 e2 h1 h2 h3 st hcl
    subst h1; subst h2; subst h3
    exact Or.inr ⟨q, (T.setVm vm₁).calling g' mk (Value.ref b :: As).toArray, t, U', L, E, ce, hT, X', hL, e1, e2, hq, hce, hcv, vx_cls hW₁ hcl, st⟩
theorem vx_runS (S : CallFix p m c cc nL s args Ts own) (hM : vx_Met l y ws rm Pc Qc XC mc ms free) (cw : CallB R s args own index y bytes maxL ret ws rm mc ms n ∧ (Cond.static y).before args s = true) (hp : PreS s H Pc As)
    (hg : g.method = m) (hn : As.length = n) (hsize : g.locals.size = nL) (hstack : g.stack = As.reverse ++ rest) (hW : 2 * g.monitorRoom + (rest.map fun v => v.category).sum ≤ 8) (hdg : decode cc g.pc = .ok (.invokestatic index, 3)) (hf : cells + mc ≤ R.cells ∧ slots + ms ≤ R.slots) :
    vx_Run p l e R s m args below meth c H locs cells slots mc ms g rest (Qc As.toArray) XC free := by
  have hK : vx_Back l R p e below s args y 3 8 (PreOf R mc ms Pc) (PostOf Qc mc ms free) (vx_Post XC mc ms free) := vx_callBack cw.1 hM hp.1
  obtain ⟨⟨-, -, -, -, -, -, hcode, hini, hy, hlen, hl⟩, hstt⟩ := cw
  obtain ⟨hx, hb, hml, ho, -⟩ := S
  intro T hT X
  rcases vx_callS X hx (bytes := bytes) (maxL := maxL) (ret := ret) ho hl hstt hini hcode hy hK hg (hsize.trans hml.symm) (argsL := As) (rest := rest) (fun sig h => hn.trans (hlen sig h)) hstack hW (by rw [hb]; exact hdg)
    (fun vm₁ hW₁ => ⟨hf.1, hf.2, hp.2 (T.setVm vm₁) hT hW₁⟩) with ⟨v, vm₁, ⟨U', l2, c2, s2⟩, hW₁, X', ⟨g', mk, t, L, e1, e2, hq, h1, hL, h2, h3⟩, st⟩ | ⟨q, vm₁, ⟨U', l2, c2, s2⟩, hW₁, X', ⟨g', mk, t, L, E, ce, e1, e2, hq, hce, hcv, hcl, h1, hL, h2, h3⟩, st⟩
  · dsimp only [Pt.U, Pt.locs, Pt.cells, Pt.slots] at X' e1 e2 h1 h2 h3 st
    subst h1; subst h2; subst h3
    exact Or.inl ⟨v, (T.setVm vm₁).calling g' mk As.toArray, t, U', L, hT, X', hL, e1, e2, hq, st⟩
  · dsimp only [Pt.U, Pt.locs, Pt.cells, Pt.slots] at X' e1 e2 h1 h2 h3 st hcl
    subst h1; subst h2; subst h3
    exact Or.inr ⟨q, (T.setVm vm₁).calling g' mk As.toArray, t, U', L, E, ce, hT, X', hL, e1, e2, hq, hce, hcv, vx_cls hW₁ hcl, st⟩
end Runs
section Rows
variable {p : Program} {l : Launch} {e : Env} {R : Room} {s : State} {m : MethodId} {args : Array Value} {below : List Frame} {meth : Method} {c : Code} {H : Heap} {locs : List Loc} {cells slots : Nat} {Q : State → Prop}
variable {mc ms : Nat} {free : Addr → Prop} {A0 A1 : Nat → Prop} {H0 : Heap} {a : Array Value} {pc : Nat} {ls : Array Slot} {st0 rest : List Value}
theorem vx_keep {st₀ t T' : State} {L : List Loc} (h0 : st₀.heap = H) (e1 : T'.heap = t.heap) (hS : va_S A0 H0 H locs) (hA : ∀ q, q < H.size → A1 q → A0 q) (hf : ∀ q, free q → A0 q) (hL : ∀ q ∈ L, free q.base) (hF : va_F A1 st₀ t) :
    H.size ≤ T'.heap.size ∧ (∀ q : Nat, q < H.size → ¬ A1 q → T'.heap[q]? = H[q]?) ∧ va_S A0 H0 T'.heap (locs ++ L) := by
  obtain ⟨hz, hk⟩ := hF
  rw [h0] at hz hk
  exact ⟨by rw [e1]; exact hz, fun q h1 h2 => by rw [e1]; exact hk q h1 h2,
    ⟨Nat.le_trans hS.1 (by rw [e1]; exact hz), fun q h1 h2 => by rw [e1, hk q (Nat.lt_of_lt_of_le h1 hS.1) (fun z => h2 (hA q (Nat.lt_of_lt_of_le h1 hS.1) z))]; exact hS.2.1 q h1 h2, fun q hq => by
      rcases List.mem_append.mp hq with h | h
      · exact hS.2.2 q h
      · exact hf _ (hL q h)⟩⟩
theorem vx_calli {S SX : Type} {post : Int32 → S → Prop} {px : SX → Prop} {B : S → State → Prop} {BX : String → SX → State → Prop} {AX : Nat → Prop} (hr : vx_Run p l e R s m args below meth c H locs cells slots mc ms (F0 m pc ls st0) rest (va_Qi post B A1 a) (vx_X px BX AX) free) (hS : va_S A0 H0 H locs) (hA : ∀ q, q < H.size → A1 q → A0 q) (hf : ∀ q, free q → A0 q) (hAX : ∀ q, q < H.size → AX q → A0 q)
    (kx : ∀ (E : String) (ce : Cell) (q9 : Addr) (u : SX) (t : State) (H1 : Heap) (locs1 : List Loc), t.heap = H1 → s.vm.Alike t.vm → px u → BX E u t → H.size ≤ H1.size → (∀ q : Nat, q < H.size → ¬ AX q → H1[q]? = H[q]?) → va_S A0 H0 H1 locs1 → H1[q9]? = some ce → ce.vm = .none → s.vm.findClass E = some ce.cls → vx_W p l e R s m args below meth c H1 locs1 (cells + mc) (slots + ms) Q (F0 m pc ls rest) q9)
    (kk : ∀ (r : Int32) (u : S) (t : State) (H1 : Heap) (locs1 : List Loc), t.heap = H1 → s.vm.Alike t.vm → post r u → B u t → H.size ≤ H1.size → (∀ q : Nat, q < H.size → ¬ A1 q → H1[q]? = H[q]?) → va_S A0 H0 H1 locs1 → W p l e R s m args below meth c H1 locs1 (cells + mc) (slots + ms) Q (F0 m (pc + 3) ls (.int r :: rest))) : W p l e R s m args below meth c H locs cells slots Q (F0 m pc ls st0) := by
  intro T hT X
  rcases hr T hT X with ⟨v, st₀, t, T', L, h0, X', hL, e1, e2, ⟨⟨r, u, hv, hp, hb⟩, hF⟩, st⟩ | ⟨q, st₀, t, T', L, E, ce, h0, X', hL, e1, e2, ⟨u, hp, hb, hF⟩, hce, hcv, hcl, st⟩
  · cases hv
    obtain ⟨k1, k2, k3⟩ := vx_keep h0 e1 hS hA hf hL hF
    obtain ⟨t2, a1, b1⟩ := kk r u t T'.heap (locs ++ L) e1.symm (by rw [← e2]; exact X'.warmed.alike) hp hb k1 k2 k3 T' rfl X'
    exact ⟨t2, st t2 a1, b1⟩
  · obtain ⟨k1, k2, k3⟩ := vx_keep h0 e1 hS hAX hf hL hF
    obtain ⟨t2, a1, b1⟩ := kx E ce q u t T'.heap (locs ++ L) e1.symm (by rw [← e2]; exact X'.warmed.alike) hp hb k1 k2 k3 (by rw [e1]; exact hce) hcv hcl T' rfl X'
    exact ⟨t2, st.trans a1, b1⟩
theorem vx_calll {S SX : Type} {post : Int64 → S → Prop} {px : SX → Prop} {B : S → State → Prop} {BX : String → SX → State → Prop} {AX : Nat → Prop} (hr : vx_Run p l e R s m args below meth c H locs cells slots mc ms (F0 m pc ls st0) rest (va_Ql post B A1 a) (vx_X px BX AX) free) (hS : va_S A0 H0 H locs) (hA : ∀ q, q < H.size → A1 q → A0 q) (hf : ∀ q, free q → A0 q) (hAX : ∀ q, q < H.size → AX q → A0 q)
    (kx : ∀ (E : String) (ce : Cell) (q9 : Addr) (u : SX) (t : State) (H1 : Heap) (locs1 : List Loc), t.heap = H1 → s.vm.Alike t.vm → px u → BX E u t → H.size ≤ H1.size → (∀ q : Nat, q < H.size → ¬ AX q → H1[q]? = H[q]?) → va_S A0 H0 H1 locs1 → H1[q9]? = some ce → ce.vm = .none → s.vm.findClass E = some ce.cls → vx_W p l e R s m args below meth c H1 locs1 (cells + mc) (slots + ms) Q (F0 m pc ls rest) q9)
    (kk : ∀ (r : Int64) (u : S) (t : State) (H1 : Heap) (locs1 : List Loc), t.heap = H1 → s.vm.Alike t.vm → post r u → B u t → H.size ≤ H1.size → (∀ q : Nat, q < H.size → ¬ A1 q → H1[q]? = H[q]?) → va_S A0 H0 H1 locs1 → W p l e R s m args below meth c H1 locs1 (cells + mc) (slots + ms) Q (F0 m (pc + 3) ls (.long r :: rest))) : W p l e R s m args below meth c H locs cells slots Q (F0 m pc ls st0) := by
  intro T hT X
  rcases hr T hT X with ⟨v, st₀, t, T', L, h0, X', hL, e1, e2, ⟨⟨r, u, hv, hp, hb⟩, hF⟩, st⟩ | ⟨q, st₀, t, T', L, E, ce, h0, X', hL, e1, e2, ⟨u, hp, hb, hF⟩, hce, hcv, hcl, st⟩
  · cases hv
    obtain ⟨k1, k2, k3⟩ := vx_keep h0 e1 hS hA hf hL hF
    obtain ⟨t2, a1, b1⟩ := kk r u t T'.heap (locs ++ L) e1.symm (by rw [← e2]; exact X'.warmed.alike) hp hb k1 k2 k3 T' rfl X'
    exact ⟨t2, st t2 a1, b1⟩
  · obtain ⟨k1, k2, k3⟩ := vx_keep h0 e1 hS hAX hf hL hF
    obtain ⟨t2, a1, b1⟩ := kx E ce q u t T'.heap (locs ++ L) e1.symm (by rw [← e2]; exact X'.warmed.alike) hp hb k1 k2 k3 (by rw [e1]; exact hce) hcv hcl T' rfl X'
    exact ⟨t2, st.trans a1, b1⟩
theorem vx_callf {S SX : Type} {post : UInt32 → S → Prop} {px : SX → Prop} {B : S → State → Prop} {BX : String → SX → State → Prop} {AX : Nat → Prop} (hr : vx_Run p l e R s m args below meth c H locs cells slots mc ms (F0 m pc ls st0) rest (va_Qf post B A1 a) (vx_X px BX AX) free) (hS : va_S A0 H0 H locs) (hA : ∀ q, q < H.size → A1 q → A0 q) (hf : ∀ q, free q → A0 q) (hAX : ∀ q, q < H.size → AX q → A0 q)
    (kx : ∀ (E : String) (ce : Cell) (q9 : Addr) (u : SX) (t : State) (H1 : Heap) (locs1 : List Loc), t.heap = H1 → s.vm.Alike t.vm → px u → BX E u t → H.size ≤ H1.size → (∀ q : Nat, q < H.size → ¬ AX q → H1[q]? = H[q]?) → va_S A0 H0 H1 locs1 → H1[q9]? = some ce → ce.vm = .none → s.vm.findClass E = some ce.cls → vx_W p l e R s m args below meth c H1 locs1 (cells + mc) (slots + ms) Q (F0 m pc ls rest) q9)
    (kk : ∀ (r : UInt32) (u : S) (t : State) (H1 : Heap) (locs1 : List Loc), t.heap = H1 → s.vm.Alike t.vm → post r u → B u t → H.size ≤ H1.size → (∀ q : Nat, q < H.size → ¬ A1 q → H1[q]? = H[q]?) → va_S A0 H0 H1 locs1 → W p l e R s m args below meth c H1 locs1 (cells + mc) (slots + ms) Q (F0 m (pc + 3) ls (.float r :: rest))) : W p l e R s m args below meth c H locs cells slots Q (F0 m pc ls st0) := by
  intro T hT X
  rcases hr T hT X with ⟨v, st₀, t, T', L, h0, X', hL, e1, e2, ⟨⟨r, u, hv, hp, hb⟩, hF⟩, st⟩ | ⟨q, st₀, t, T', L, E, ce, h0, X', hL, e1, e2, ⟨u, hp, hb, hF⟩, hce, hcv, hcl, st⟩
  · cases hv
    obtain ⟨k1, k2, k3⟩ := vx_keep h0 e1 hS hA hf hL hF
    obtain ⟨t2, a1, b1⟩ := kk r u t T'.heap (locs ++ L) e1.symm (by rw [← e2]; exact X'.warmed.alike) hp hb k1 k2 k3 T' rfl X'
    exact ⟨t2, st t2 a1, b1⟩
  · obtain ⟨k1, k2, k3⟩ := vx_keep h0 e1 hS hAX hf hL hF
    obtain ⟨t2, a1, b1⟩ := kx E ce q u t T'.heap (locs ++ L) e1.symm (by rw [← e2]; exact X'.warmed.alike) hp hb k1 k2 k3 (by rw [e1]; exact hce) hcv hcl T' rfl X'
    exact ⟨t2, st.trans a1, b1⟩
theorem vx_calld {S SX : Type} {post : UInt64 → S → Prop} {px : SX → Prop} {B : S → State → Prop} {BX : String → SX → State → Prop} {AX : Nat → Prop} (hr : vx_Run p l e R s m args below meth c H locs cells slots mc ms (F0 m pc ls st0) rest (va_Qd post B A1 a) (vx_X px BX AX) free) (hS : va_S A0 H0 H locs) (hA : ∀ q, q < H.size → A1 q → A0 q) (hf : ∀ q, free q → A0 q) (hAX : ∀ q, q < H.size → AX q → A0 q)
    (kx : ∀ (E : String) (ce : Cell) (q9 : Addr) (u : SX) (t : State) (H1 : Heap) (locs1 : List Loc), t.heap = H1 → s.vm.Alike t.vm → px u → BX E u t → H.size ≤ H1.size → (∀ q : Nat, q < H.size → ¬ AX q → H1[q]? = H[q]?) → va_S A0 H0 H1 locs1 → H1[q9]? = some ce → ce.vm = .none → s.vm.findClass E = some ce.cls → vx_W p l e R s m args below meth c H1 locs1 (cells + mc) (slots + ms) Q (F0 m pc ls rest) q9)
    (kk : ∀ (r : UInt64) (u : S) (t : State) (H1 : Heap) (locs1 : List Loc), t.heap = H1 → s.vm.Alike t.vm → post r u → B u t → H.size ≤ H1.size → (∀ q : Nat, q < H.size → ¬ A1 q → H1[q]? = H[q]?) → va_S A0 H0 H1 locs1 → W p l e R s m args below meth c H1 locs1 (cells + mc) (slots + ms) Q (F0 m (pc + 3) ls (.double r :: rest))) : W p l e R s m args below meth c H locs cells slots Q (F0 m pc ls st0) := by
  intro T hT X
  rcases hr T hT X with ⟨v, st₀, t, T', L, h0, X', hL, e1, e2, ⟨⟨r, u, hv, hp, hb⟩, hF⟩, st⟩ | ⟨q, st₀, t, T', L, E, ce, h0, X', hL, e1, e2, ⟨u, hp, hb, hF⟩, hce, hcv, hcl, st⟩
  · cases hv
    obtain ⟨k1, k2, k3⟩ := vx_keep h0 e1 hS hA hf hL hF
    obtain ⟨t2, a1, b1⟩ := kk r u t T'.heap (locs ++ L) e1.symm (by rw [← e2]; exact X'.warmed.alike) hp hb k1 k2 k3 T' rfl X'
    exact ⟨t2, st t2 a1, b1⟩
  · obtain ⟨k1, k2, k3⟩ := vx_keep h0 e1 hS hAX hf hL hF
    obtain ⟨t2, a1, b1⟩ := kx E ce q u t T'.heap (locs ++ L) e1.symm (by rw [← e2]; exact X'.warmed.alike) hp hb k1 k2 k3 (by rw [e1]; exact hce) hcv hcl T' rfl X'
    exact ⟨t2, st.trans a1, b1⟩
theorem vx_callv {S SX : Type} {post : S → Prop} {px : SX → Prop} {B : S → State → Prop} {BX : String → SX → State → Prop} {AX : Nat → Prop} (hr : vx_Run p l e R s m args below meth c H locs cells slots mc ms (F0 m pc ls st0) rest (va_Qv post B A1 a) (vx_X px BX AX) free) (hS : va_S A0 H0 H locs) (hA : ∀ q, q < H.size → A1 q → A0 q) (hf : ∀ q, free q → A0 q) (hAX : ∀ q, q < H.size → AX q → A0 q)
    (kx : ∀ (E : String) (ce : Cell) (q9 : Addr) (u : SX) (t : State) (H1 : Heap) (locs1 : List Loc), t.heap = H1 → s.vm.Alike t.vm → px u → BX E u t → H.size ≤ H1.size → (∀ q : Nat, q < H.size → ¬ AX q → H1[q]? = H[q]?) → va_S A0 H0 H1 locs1 → H1[q9]? = some ce → ce.vm = .none → s.vm.findClass E = some ce.cls → vx_W p l e R s m args below meth c H1 locs1 (cells + mc) (slots + ms) Q (F0 m pc ls rest) q9)
    (kk : ∀ (u : S) (t : State) (H1 : Heap) (locs1 : List Loc), t.heap = H1 → s.vm.Alike t.vm → post u → B u t → H.size ≤ H1.size → (∀ q : Nat, q < H.size → ¬ A1 q → H1[q]? = H[q]?) → va_S A0 H0 H1 locs1 → W p l e R s m args below meth c H1 locs1 (cells + mc) (slots + ms) Q (F0 m (pc + 3) ls (rest))) : W p l e R s m args below meth c H locs cells slots Q (F0 m pc ls st0) := by
  intro T hT X
  rcases hr T hT X with ⟨v, st₀, t, T', L, h0, X', hL, e1, e2, ⟨⟨u, hv, hp, hb⟩, hF⟩, st⟩ | ⟨q, st₀, t, T', L, E, ce, h0, X', hL, e1, e2, ⟨u, hp, hb, hF⟩, hce, hcv, hcl, st⟩
  · cases hv
    obtain ⟨k1, k2, k3⟩ := vx_keep h0 e1 hS hA hf hL hF
    obtain ⟨t2, a1, b1⟩ := kk u t T'.heap (locs ++ L) e1.symm (by rw [← e2]; exact X'.warmed.alike) hp hb k1 k2 k3 T' rfl X'
    exact ⟨t2, st t2 a1, b1⟩
  · obtain ⟨k1, k2, k3⟩ := vx_keep h0 e1 hS hAX hf hL hF
    obtain ⟨t2, a1, b1⟩ := kx E ce q u t T'.heap (locs ++ L) e1.symm (by rw [← e2]; exact X'.warmed.alike) hp hb k1 k2 k3 (by rw [e1]; exact hce) hcv hcl T' rfl X'
    exact ⟨t2, st.trans a1, b1⟩
/-- caught by the row x of this method's table; the rows ahead don't take it -/
theorem vx_catch {own name : String} {E : String} {ce : Cell} {q : Addr} (hown : s.vm.findClass own = some m.cls) (pre : List ExceptionTableEntry) (x : ExceptionTableEntry) (suf : List ExceptionTableEntry) (hsplit : c.exceptionTable.toList = pre ++ x :: suf)
    (hpass : ∀ z ∈ pre, covers z pc = false ∨ (z.catchType ≠ 0 ∧ ∃ nm : String, (Cond.classLink own z.catchType nm).before args s = true ∧ va_Nc E nm s)) (hx : covers x pc = true) (h0 : x.catchType ≠ 0)
    (hlink : (Cond.classLink own x.catchType name).before args s = true) (hcast : (Cond.castable E name).before args s = true) (hcell : H[q]? = some ce) (hv : ce.vm = .none) (hcl : s.vm.findClass E = some ce.cls)
    (kk : W p l e R s m args below meth c H locs cells slots Q (F0 m x.handlerPc ls [.ref q])) : vx_W p l e R s m args below meth c H locs cells slots Q (F0 m pc ls rest) q := by
  intro T hT X
  have hpl : e.platform.magicAccessors = ({} : Platform).magicAccessors := by rw [X.admits.platform]
  obtain ⟨c3, c4, hc3, hc4, hasg⟩ := Cond.castable_spec hcast
  cases Option.some.inj (hc3.symm.trans hcl)
  obtain ⟨c5, hc5, hcl5⟩ := Cond.classLink_spec hown hlink e.platform hpl
  cases Option.some.inj (hc4.symm.trans hc5)
  obtain ⟨vm', X', st⟩ := X.thenCaughtThrough q (g := F0 m pc ls rest) rfl (Steps.refl _) (by rw [hT]; exact hcell) (by rw [hv]; rfl) (by obtain ⟨k9, h9, -⟩ := Vm.findClass_spec hcl; exact ⟨k9, h9⟩) pre x suf hsplit
    (fun z hz => by
      rcases hpass z hz with h | ⟨hz0, nm, hl1, hn1⟩
      · exact Or.inl h
      · obtain ⟨c6, hc6, hcl6⟩ := Cond.classLink_spec hown hl1 e.platform hpl
        obtain ⟨a8, b8, h1, h2, h3⟩ := hn1
        cases Option.some.inj (h1.symm.trans hcl)
        cases Option.some.inj (h2.symm.trans hc6)
        exact Or.inr ⟨hz0, _, hcl6, h3⟩) hx (Or.inr ⟨h0, c4, hcl5, hasg⟩)
  obtain ⟨t, a1, b1⟩ := kk (T.setVm vm') hT X'
  exact ⟨t, st.trans a1, b1⟩
end Rows
section Ends
variable {p : Program} {l : Launch} {e : Env} {R : Room} {s : State} {m : MethodId} {args : Array Value} {below : List Frame} {meth : Method} {c : Code} {H : Heap} {locs : List Loc} {cells slots : Nat} {Q : State → Prop}
variable {mc ms : Nat} {free : Addr → Prop} {A0 A1 : Nat → Prop} {H0 : Heap} {a : Array Value} {ls : Array Slot} {st0 rest : List Value}
variable {Qc : Array Value → State → Outcome → State → Prop} {XC : String → State → State → Prop}
/-- what a body that may throw owes at its end -/
def vx_MQ (below : List Frame) (Qc : Array Value → State → Outcome → State → Prop) (XC : String → State → State → Prop) (a : Array Value) (s : State) (mc ms : Nat) (free : Addr → Prop) : State → Prop := fun t =>
  ∃ o, t.status = .running ∧ Ended t below o ∧ vx_Q Qc XC mc ms free a s o t
theorem vx_ret {g : JFrame} {mc ms : Nat} (k : W p l e R s m args below meth c H locs cells slots (MQ below Qc args s mc ms free) g) : W p l e R s m args below meth c H locs cells slots (vx_MQ below Qc XC args s mc ms free) g := by
  intro T hT X
  obtain ⟨t, a1, o, b1, b2, b3, b4⟩ := k T hT X
  exact ⟨t, a1, o, b1, b2, Or.inl ⟨b3, b4⟩⟩
/-- not caught here: it goes on to the caller -/
theorem vx_widen {g : JFrame} {q : Addr} {k n : Nat} (h1 : cells ≤ k) (h2 : slots ≤ n) (kk : vx_W p l e R s m args below meth c H locs k n Q g q) : vx_W p l e R s m args below meth c H locs cells slots Q g q := fun T hT X => kk T hT (stand_widen X h1 h2)
theorem vx_out {pc : Nat} {E : String} {ce : Cell} {q : Addr} {mc ms : Nat} (hout : ∀ x ∈ c.exceptionTable.toList, covers x pc = false) (hlocks : meth.locks = false) (hcell : H[q]? = some ce) (hv : ce.vm = .none) (hcl : s.vm.findClass E = some ce.cls)
    (hx : ∀ t : State, t.heap = H → s.vm.Alike t.vm → XC E s t) (hf : ∀ z ∈ locs, free z.base) (hc : cells ≤ mc) (hs : slots ≤ ms) :
    vx_W p l e R s m args below meth c H locs cells slots (vx_MQ below Qc XC args s mc ms free) (F0 m pc ls rest) q := by
  intro T hT X
  obtain ⟨st1, hrun, hend, hW, hsm⟩ := X.leaveThrown q (g := F0 m pc ls rest) rfl rfl rfl hout hlocks
  have hcell9 : (T.setFrames (.throwing q :: below)).heap[q]? = some ce := by
    show T.heap[q]? = some ce
    rw [hT]; exact hcell
  exact ⟨_, st1, .threw q, hrun, hend, Or.inr ⟨q, rfl, E, ce, locs, hx _ hT hW.alike, hcell9, hv, hcl, hW, hsm.mono hc hs, hf⟩⟩
theorem vx_frame {U : State} {k n : Nat} (h : s.sameButNew ({ U with vm := s.vm } : State) locs k n) : s.heap.size ≤ U.heap.size ∧ ∀ q : Nat, q < s.heap.size → (∀ z ∈ locs, z.base ≠ q) → U.heap[q]? = s.heap[q]? := by
  obtain ⟨-, h2, -, -, -, h6⟩ := h
  refine ⟨h2, fun q hq hz => ?_⟩
  obtain ⟨c9, e1, e2, e3, e4⟩ := h6 q _ (Array.getElem?_eq_getElem hq)
  have hs : c9.slots = (s.heap[q]).slots := Array.ext_getElem? fun i => e4 i fun hm => hz _ hm rfl
  have h9 : c9 = s.heap[q] := by
    rw [hs] at e2
    exact e2
  have e5 : U.heap[q]? = some c9 := e1
  rw [e5, h9, Array.getElem?_eq_getElem hq]
/-- the words of a throw but the four that speak of the heap -/
def vx_no (w : Cond) : Bool := decide (w ≠ .isRef (.static Bundle.tN "UNASSIGNED_STACK" Bundle.steD)) && decide (w ≠ .isRef (.static Bundle.tN "SUPPRESSED_SENTINEL" Bundle.listD)) && decide (w ≠ .laysStatic Bundle.tN "UNASSIGNED_STACK" Bundle.steD) && decide (w ≠ .laysStatic Bundle.tN "SUPPRESSED_SENTINEL" Bundle.listD)
def vx_at0 (own : String) (ic : Nat) (X : String) (names : List String) : List Cond := (Bundle.ownAtoms0 own ic X names).filter vx_no
def vx_atS (own : String) (ic : Nat) (X : String) (names : List String) : List Cond := (Bundle.ownAtoms own ic X names).filter vx_no
/-- a word that the tables alone decide, or a good one -/
def vx_ot (w : Cond) : Bool := w.onTables || goodWord w
theorem vx_ot_at {args a' : Array Value} {s U : State} {w : Cond} (hW : s.WarmedH U.vm) (hvm : s.vm = U.vm) (hg : vx_ot w = true) (h : w.before args s = true) : w.before a' U = true := by
  simp only [vx_ot, Bool.or_eq_true] at hg
  rcases hg with hg | hg
  · exact va_tabs hg hvm h
  · exact word_at hW (good_of_word hg) h
/-- a list's words: the good ones out of the method's own list, the others by premises of their own -/
theorem vx_hat {args : Array Value} {s : State} {L B : List Cond} (h1 : ∀ w ∈ L.filter goodWord, w.before args s = true) (h2 : ∀ w ∈ L.filter (fun w => !goodWord w), w ∈ B) (h3 : ∀ w ∈ B, w.before args s = true) : ∀ w ∈ L, w.before args s = true := by
  intro w hw
  by_cases g : goodWord w = true
  · exact h1 w (List.mem_filter.mpr ⟨hw, g⟩)
  · refine h3 w (h2 w (List.mem_filter.mpr ⟨hw, ?_⟩))
    show (!goodWord w) = true
    cases hgw : goodWord w
    · rfl
    · exact absurd hgw g
theorem vx_c {args : Array Value} {s : State} {w : Cond} {B : List Cond} (h : w.before args s = true) (t : ∀ w ∈ B, w.before args s = true) : ∀ w' ∈ w :: B, w'.before args s = true := fun w' h' => (List.mem_cons.mp h').elim (fun e => by rw [e]; exact h) (t w')
theorem vx_n {args : Array Value} {s : State} : ∀ w ∈ ([] : List Cond), w.before args s = true := fun _ h => nomatch h
theorem vx_own {args : Array Value} {s : State} {L : List Cond} (h1 : ∀ w ∈ L.filter vx_no, w.before args s = true)
    (hU : (Cond.isRef (.static Bundle.tN "UNASSIGNED_STACK" Bundle.steD)).before args s = true) (hN : (Cond.isRef (.static Bundle.tN "SUPPRESSED_SENTINEL" Bundle.listD)).before args s = true)
    (lU : (Cond.laysStatic Bundle.tN "UNASSIGNED_STACK" Bundle.steD).before args s = true) (lN : (Cond.laysStatic Bundle.tN "SUPPRESSED_SENTINEL" Bundle.listD).before args s = true) : ∀ w ∈ L, w.before args s = true := by
  intro w hw
  by_cases e1 : w = .isRef (.static Bundle.tN "UNASSIGNED_STACK" Bundle.steD)
  · rw [e1]; exact hU
  · by_cases e2 : w = .isRef (.static Bundle.tN "SUPPRESSED_SENTINEL" Bundle.listD)
    · rw [e2]; exact hN
    · by_cases e3 : w = .laysStatic Bundle.tN "UNASSIGNED_STACK" Bundle.steD
      · rw [e3]; exact lU
      · by_cases e4 : w = .laysStatic Bundle.tN "SUPPRESSED_SENTINEL" Bundle.listD
        · rw [e4]; exact lN
        · exact h1 w (List.mem_filter.mpr ⟨hw, by unfold vx_no; rw [decide_eq_true e1, decide_eq_true e2, decide_eq_true e3, decide_eq_true e4]; rfl⟩)
/-- where a static field lies, its class's statics cell in H -/
def vx_L (C n d : String) (A : Nat → Prop) (U : State) (H : Heap) : Prop := ∃ (c : ClassId) (k : Class) (i : Nat) (f : Field) (a : Nat) (cell : Cell), U.vm.findClass C = some c ∧ U.fieldFound? C n d = some (c, k, i, f) ∧ f.isStatic = true ∧ k.statics = some a ∧ H[a]? = some cell ∧ cell.vm.isStatics = true ∧ cell.cls = c ∧ f.slot < cell.slots.size ∧ k.staticTypes[f.slot]? = some f.type ∧ ¬ A a
theorem vx_L.moved {C n d : String} {A : Nat → Prop} {u U : State} {H : Heap} (hvm : u.vm.Alike U.vm) (h : vx_L C n d A u H) : vx_L C n d A U H := by
  obtain ⟨c, k, i, f, a, cell, h1, h2, h3, h4, h5, h6, h7, h8, h9, h10⟩ := h
  obtain ⟨k', hi', he⟩ := State.fieldFound?_setVm hvm h2
  exact ⟨c, k', i, f, a, cell, by rw [hvm.findClass]; exact h1, hi', h3, by rw [he]; exact h4, h5, h6, h7, h8, by rw [he]; exact h9, h10⟩
theorem vx_L.kept {C n d : String} {A : Nat → Prop} {U : State} {H H1 : Heap} (h : vx_L C n d A U H) (hq : ∀ a : Nat, a < H.size → ¬ A a → H1[a]? = H[a]?) : vx_L C n d A U H1 := by
  obtain ⟨c, k, i, f, a, cell, h1, h2, h3, h4, h5, h6, h7, h8, h9, h10⟩ := h
  exact ⟨c, k, i, f, a, cell, h1, h2, h3, h4, by rw [hq a (Array.getElem?_eq_some_iff.mp h5).1 h10]; exact h5, h6, h7, h8, h9, h10⟩
theorem vx_L.narrow {C n d : String} {A B : Nat → Prop} {U : State} {H : Heap} (h : vx_L C n d A U H) (hAB : ∀ q, B q → A q) : vx_L C n d B U H := by
  obtain ⟨c, k, i, f, a, cell, h1, h2, h3, h4, h5, h6, h7, h8, h9, h10⟩ := h
  exact ⟨c, k, i, f, a, cell, h1, h2, h3, h4, h5, h6, h7, h8, h9, fun z => h10 (hAB _ z)⟩
theorem vx_L.word {C n d : String} {A : Nat → Prop} {s : State} {args : Array Value} (h : vx_L C n d A s s.heap) : (Cond.laysStatic C n d).before args s = true := by
  obtain ⟨c, k, i, f, a, cell, h1, h2, h3, h4, h5, h6, h7, h8, h9, -⟩ := h
  show (Cond.laysStatic C n d).holds args s none s [] = true
  exact Cond.laysStatic_of h1 h2 h3 h4 h5 h6 h7 h8 h9
/-- .. and what it holds: null or some reference -/
def vx_Zq (C n d : String) (A : Nat → Prop) (U : State) (H : Heap) : Prop := va_Zq C n d A U H ∧ vx_L C n d A U H
theorem vx_Zq.moved {C n d : String} {A : Nat → Prop} {u U : State} {H : Heap} (hvm : u.vm.Alike U.vm) (h : vx_Zq C n d A u H) : vx_Zq C n d A U H := ⟨va_Zq.moved hvm h.1, vx_L.moved hvm h.2⟩
theorem vx_Zq.kept {C n d : String} {A : Nat → Prop} {U : State} {H H1 : Heap} (h : vx_Zq C n d A U H) (hq : ∀ a : Nat, a < H.size → ¬ A a → H1[a]? = H[a]?) : vx_Zq C n d A U H1 := ⟨va_Zq.kept h.1 hq, vx_L.kept h.2 hq⟩
theorem vx_Zq.narrow {C n d : String} {A B : Nat → Prop} {U : State} {H : Heap} (h : vx_Zq C n d A U H) (hAB : ∀ q, B q → A q) : vx_Zq C n d B U H := ⟨va_Zq.narrow h.1 hAB, vx_L.narrow h.2 hAB⟩
theorem vx_Zqof {args : Array Value} {s : State} {C n d : String} {A : Nat → Prop} (hl : (Cond.laysStatic C n d).before args s = true) (hini : (Cond.initialized C).before args s = true) (h : (Cond.isRef (.static C n d)).before args s = true) (hA : ∀ a : Nat, a < s.heap.size → ¬ A a) : vx_Zq C n d A s s.heap := by
  refine ⟨va_Zqof hl hini h hA, ?_⟩
  obtain ⟨c, k, i, f, a, cell, h1, h2, h3, h4, h5, h6, h7, h8, h9⟩ := Cond.laysStatic_spec hl
  exact ⟨c, k, i, f, a, cell, h1, h2, h3, h4, h5, h6, h7, h8, h9, hA a (Array.getElem?_eq_some_iff.mp h5).1⟩
theorem vx_isRef {C n d : String} {v : Value} {A : Nat → Prop} {s : State} {args : Array Value} (h : va_Z C n d v A s s.heap) (hv : v.isRef = true) : (Cond.isRef (.static C n d)).before args s = true := by
  obtain ⟨cf, kf, fi, f, a, cell, h1, h2, h3, h4, h5, h6, h7, -⟩ := h
  have he : (Term.static C n d).eval args s none [] s = some v := by
    simp [Term.eval, State.fieldNamed?, h1, h2, h4, h5, h6, h7]
  simp only [Cond.before, Cond.holds, Cond.value, he]
  cases v <;> simp_all [Value.isRef]
theorem vx_isRefq {C n d : String} {A : Nat → Prop} {s : State} {args : Array Value} (h : va_Zq C n d A s s.heap) : (Cond.isRef (.static C n d)).before args s = true := by
  rcases h with h | ⟨t, h⟩
  · exact vx_isRef h rfl
  · exact vx_isRef h rfl
/-- the same frame, seen from here: as if the method were called anew in this heap -/
theorem vx_rebase {T : State} (X : Stand p l e R s m args below meth c T locs cells slots) {R' : Room} (hf : R'.frames ≤ R.frames) (hl : R'.locals ≤ R.locals) (hc : cells + R'.cells ≤ R.cells) (hs : slots + R'.slots ≤ R.slots) :
    Stand p l e R' ((T.setVm s.vm).setFrames (.invoking m args :: below)) m args below meth c T [] 0 0 := by
  have htop : (T.setVm s.vm).topJava?.isSome := X.here.top
  have hF : ((T.setVm s.vm).setFrames (.invoking m args :: below)).frames = .invoking m args :: below := State.frames_setFrames _ (State.cur_lt_of_top htop)
  obtain ⟨g₀, hg0⟩ := Option.isSome_iff_exists.mp htop
  obtain ⟨r, hr⟩ := State.topJava?_eq_some.mp hg0
  have hl9 : e.platform.stackLimits (T.setVm s.vm).me = e.platform.stackLimits s.me := X.limits
  have hb9 : (T.setVm s.vm).me.stackBytes = s.me.stackBytes := X.bytes
  refine ⟨X.admits, X.cas, X.clock, hF, ?_, X.hears, X.method, X.code, X.here, X.tail, X.warmed, ?_, ?_, ?_⟩
  · have h := X.room
    have hU : ((T.setVm s.vm).setFrames (.invoking m args :: below)).localsInUse = s.localsInUse := by
      rw [State.localsInUse_invoking hF (meth := meth) (c := c) X.method X.code, State.localsInUse_invoking X.frames X.method X.code]
    simp only [State.hasRoom, Bool.and_eq_true, decide_eq_true_eq] at h ⊢
    obtain ⟨⟨⟨⟨h1, h2, h3, h4, h5, h6⟩, h7⟩, h8⟩, h9⟩ := h
    rw [X.frames, List.length_cons] at h2 h3
    have q1 := X.heapSize
    have q2 := X.used
    simp only [hF, hU, List.length_cons, State.stackLimits_setFrames, State.stackBytes_setFrames, hl9, hb9]
    refine ⟨⟨⟨⟨by omega, by omega, by omega, by omega, by omega, h6⟩, ?_⟩, ?_⟩, X.book⟩
    · show T.heap.size + R'.cells ≤ e.platform.maxCells
      omega
    · show T.slotsUsed + R'.slots ≤ e.platform.maxSlots
      omega
  · rw [State.stackLimits_setFrames]; rfl
  · rw [State.stackBytes_setFrames]; rfl
  · refine ⟨?_, Nat.le_refl _, Nat.le_refl _, ?_, ?_, fun a c9 h9 => ⟨c9, h9, rfl, rfl, fun _ _ => rfl⟩⟩
    · obtain ⟨t, ht, -⟩ := State.frames_cons hr
      show T.setVm s.vm = { ((T.setVm s.vm).setFrames (.invoking m args :: below)).setFrames (T.setVm s.vm).frames with heap := T.heap, slotsUsed := T.slotsUsed }
      rw [State.setFrames_setFrames, State.setFrames_self ht]
      rfl
    · show T.slotsUsed = T.slotsUsed + ((T.heap.toList.drop T.heap.size).map (·.slots.size)).sum
      rw [List.drop_eq_nil_of_le (Nat.le_of_eq Array.length_toList)]
      rfl
    · show ((T.heap.toList.drop T.heap.size).map (·.slots.size)).sum ≤ 0
      rw [List.drop_eq_nil_of_le (Nat.le_of_eq Array.length_toList)]
      exact Nat.le_refl _
/-- 'throw new E()': new; dup; invokespecial; athrow -/
theorem vx_throw0 {cc : ByteArray} {pc : Nat} (hexec : p.tables.exec = Jvm.exec) (hb : c.code = cc) (hl : l.stackTraces = false) {own cls : String} {names : List String} {ik ic mc ms : Nat} {A : Nat → Prop}
    (hown : s.vm.findClass own = some m.cls) (hcls : Bundle.fit cls = true) (hnames : ∀ n ∈ names, Bundle.fit n = true)
    (hk : (Cond.classLink own ik cls).before args s = true) (hini : (Cond.initialized cls).before args s = true) (hat : ∀ w ∈ vx_at0 own ic cls names, w.before args s = true)
    (hgood : ∀ w ∈ Cond.classLink own ik cls :: Cond.initialized cls :: vx_at0 own ic cls names, vx_ot w = true)
    (hU : vx_Zq Bundle.tN "UNASSIGNED_STACK" Bundle.steD A s s.heap) (hN : vx_Zq Bundle.tN "SUPPRESSED_SENTINEL" Bundle.listD A s s.heap) (hS : va_S A s.heap H locs) (hsize : ls.size = c.maxLocals)
    (d0 : decode cc pc = .ok (.new ik, 3)) (d3 : decode cc (pc + 3) = .ok (.dup, 1)) (d4 : decode cc (pc + 4) = .ok (.invokespecial ic, 3)) (d7 : decode cc (pc + 7) = .ok (.athrow, 1))
    (hout : ∀ x ∈ c.exceptionTable.toList, covers x (pc + 7) = false)
    (hRframes : names.length + 3 < R.frames) (hRlocals : (rest.map fun v => v.category).sum + (13 * (names.length + 1) + 42) ≤ R.locals) (hRcells : cells + 1 ≤ R.cells) (hRslots : slots + 6 ≤ R.slots) (hlocks : meth.locks = false)
    (hx : ∀ t : State, s.vm.Alike t.vm → H.size ≤ t.heap.size → (∀ q : Nat, q < H.size → t.heap[q]? = H[q]?) → XC cls s t)
    (hf : ∀ z ∈ locs, free z.base) (hc : cells + 1 ≤ mc) (hs : slots + 6 ≤ ms) :
    W p l e R s m args below meth c H locs cells slots (vx_MQ below Qc XC args s mc ms free) (F0 m pc ls rest) := by
  intro T hT X
  have htr : e.platform.stackTraces = false := (show e.platform.stackTraces = l.stackTraces by rw [X.admits.platform]).trans hl
  have Y := vx_rebase X (R' := { frames := R.frames, locals := R.locals, cells := 1, slots := 6 }) (Nat.le_refl _) (Nat.le_refl _) hRcells hRslots
  obtain ⟨s', hA⟩ : ∃ z, z = (T.setVm s.vm).setFrames (.invoking m args :: below) := ⟨_, rfl⟩
  rw [← hA] at Y
  have hvm : s'.vm = s.vm := by rw [hA]; rfl
  have hhp : s'.heap = H := by rw [hA]; exact hT
  have hW0 : s.WarmedH s'.vm := by rw [hvm]; exact State.WarmedH.refl s
  have hat' : ∀ w ∈ vx_at0 own ic cls names, w.before args s' = true := fun w hw => vx_ot_at hW0 hvm.symm (hgood w (List.mem_cons_of_mem _ (List.mem_cons_of_mem _ hw))) (hat w hw)
  have hk' : (Cond.classLink own ik cls).before args s' = true := vx_ot_at hW0 hvm.symm (hgood _ List.mem_cons_self) hk
  have hini' : (Cond.initialized cls).before args s' = true := vx_ot_at hW0 hvm.symm (hgood _ (List.mem_cons_of_mem _ List.mem_cons_self)) hini
  have hU' : vx_Zq Bundle.tN "UNASSIGNED_STACK" Bundle.steD A s' s'.heap := by rw [hhp]; exact vx_Zq.moved hW0.alike (hU.kept hS.2.1)
  have hN' : vx_Zq Bundle.tN "SUPPRESSED_SENTINEL" Bundle.listD A s' s'.heap := by rw [hhp]; exact vx_Zq.moved hW0.alike (hN.kept hS.2.1)
  have h : ∀ w ∈ Bundle.ownAtoms0 own ic cls names, w.before args s' = true := vx_own hat' (vx_isRefq hU'.1) (vx_isRefq hN'.1) hU'.2.word hN'.2.word
  have hown' : s'.vm.findClass own = some m.cls := by rw [hvm]; exact hown
  have hins : (Cond.instantiable cls 6).before args s' = true := h _ (by simp [Bundle.ownAtoms0])
  obtain ⟨vm₁, cX, kX, hfX, hkX, -, -, X₁, st1⟩ := Y.newCold hexec (own := own) (C := cls) (index := ik) (n := 6) hown' hk' hins hini'
    (g := F0 m pc ls rest) rfl (by rw [hb]; exact d0) (Nat.le_refl _) (Nat.le_refl _)
  generalize hT1 : (T.setVm vm₁).pushCell { cls := cX, slots := kX.instanceTypes.map defaultValue, vm := .none } = T1 at X₁ st1
  have hcat : (Value.ref T.heap.size).category = 1 := rfl
  have hcellA : T1.heap[T.heap.size]? = some (freshCell cX kX) := by rw [← hT1]; exact State.heap_pushCell_size _ _
  have d3' : decode c.code (pc + 3) = .ok (.dup, 1) := by rw [hb]; exact d3
  obtain ⟨U, hsteps, hrun, hend, hW, hsame, ce, hce, hO⟩ := X₁.ctorThrow0 hexec htr (own := own) (cls := cls) (names := names) (ic := ic) hown' hcls hnames h (fun x hx => nomatch hx) hfX hkX hcellA (by rw [hhp, hT]; exact Nat.le_refl _)
    (g := { method := m, pc := pc + 4, locals := ls, stack := .ref T.heap.size :: .ref T.heap.size :: rest, locked := none }) rfl hsize rfl rfl (rest := rest) rfl
    (by rw [hb]; exact d4) (by rw [hb]; exact d7) hout hRframes (by simp only [List.map_cons, List.sum_cons, hcat]; omega) hlocks
  obtain ⟨f1, f2⟩ := vx_frame hsame
  rw [hhp] at f1 f2
  have hWs : s.WarmedH U.vm := State.WarmedH.trans hW0 hW
  have hcl : s.vm.findClass cls = some ce.cls := by
    have h9 := hO.cls
    rw [hvm] at h9
    exact h9
  have hall : s.sameButNew ({ U with vm := s.vm } : State) locs mc ms := by
    subst hA
    obtain ⟨e1, e2⟩ := hsame
    rw [State.setFrames_setFrames] at e1
    have h2 : (T.setVm s.vm).sameButNew ({ U with vm := s.vm } : State) [] (0 + 1) (0 + 6) := ⟨e1, e2⟩
    have h3 := X.same.trans h2
    rw [List.append_nil] at h3
    exact h3.mono hc hs
  refine ⟨U, ?_, .threw T.heap.size, hrun, hend, Or.inr ⟨T.heap.size, rfl, cls, ce, locs, hx U hWs.alike f1 (fun q hq => f2 q hq (fun z hz => nomatch hz)), hce, hO.vm, hcl, hWs, hall, hf⟩⟩
  refine st1 _ ?_
  show Steps p.tables e below (T1.setTop { method := m, pc := pc + 3, locals := ls, stack := .ref T.heap.size :: rest, locked := none }) _
  jvm_step X₁.here [X₁.here.top, hexec, d3', Value.category]
  exact hsteps
/-- 'throw new E("text")': new; dup; ldc; invokespecial; athrow -/
theorem vx_throwS {cc : ByteArray} {pc : Nat} (hexec : p.tables.exec = Jvm.exec) (hb : c.code = cc) (hl : l.stackTraces = false) {own cls text : String} {names : List String} {ik is ic mc ms sa : Nat} {A : Nat → Prop}
    (hown : s.vm.findClass own = some m.cls) (hcls : Bundle.fit cls = true) (hnames : ∀ n ∈ names, Bundle.fit n = true)
    (hk : (Cond.classLink own ik cls).before args s = true) (hini : (Cond.initialized cls).before args s = true) (hstr : vk_R own is text sa s) (hat : ∀ w ∈ vx_atS own ic cls names, w.before args s = true)
    (hgood : ∀ w ∈ Cond.classLink own ik cls :: Cond.initialized cls :: vx_atS own ic cls names, vx_ot w = true)
    (hU : vx_Zq Bundle.tN "UNASSIGNED_STACK" Bundle.steD A s s.heap) (hN : vx_Zq Bundle.tN "SUPPRESSED_SENTINEL" Bundle.listD A s s.heap) (hS : va_S A s.heap H locs) (hsize : ls.size = c.maxLocals)
    (d0 : decode cc pc = .ok (.new ik, 3)) (d3 : decode cc (pc + 3) = .ok (.dup, 1)) (d4 : decode cc (pc + 4) = .ok (.ldc is, 2)) (d6 : decode cc (pc + 6) = .ok (.invokespecial ic, 3)) (d9 : decode cc (pc + 9) = .ok (.athrow, 1))
    (hout : ∀ x ∈ c.exceptionTable.toList, covers x (pc + 9) = false)
    (hRframes : names.length + 3 < R.frames) (hRlocals : (rest.map fun v => v.category).sum + (13 * (names.length + 1) + 43) ≤ R.locals) (hRcells : cells + 1 ≤ R.cells) (hRslots : slots + 6 ≤ R.slots) (hlocks : meth.locks = false)
    (hx : ∀ t : State, s.vm.Alike t.vm → H.size ≤ t.heap.size → (∀ q : Nat, q < H.size → t.heap[q]? = H[q]?) → XC cls s t)
    (hf : ∀ z ∈ locs, free z.base) (hc : cells + 1 ≤ mc) (hs : slots + 6 ≤ ms) :
    W p l e R s m args below meth c H locs cells slots (vx_MQ below Qc XC args s mc ms free) (F0 m pc ls rest) := by
  intro T hT X
  have htr : e.platform.stackTraces = false := (show e.platform.stackTraces = l.stackTraces by rw [X.admits.platform]).trans hl
  have Y := vx_rebase X (R' := { frames := R.frames, locals := R.locals, cells := 1, slots := 6 }) (Nat.le_refl _) (Nat.le_refl _) hRcells hRslots
  obtain ⟨s', hA⟩ : ∃ z, z = (T.setVm s.vm).setFrames (.invoking m args :: below) := ⟨_, rfl⟩
  rw [← hA] at Y
  have hvm : s'.vm = s.vm := by rw [hA]; rfl
  have hhp : s'.heap = H := by rw [hA]; exact hT
  have hW0 : s.WarmedH s'.vm := by rw [hvm]; exact State.WarmedH.refl s
  have hat' : ∀ w ∈ vx_atS own ic cls names, w.before args s' = true := fun w hw => vx_ot_at hW0 hvm.symm (hgood w (List.mem_cons_of_mem _ (List.mem_cons_of_mem _ hw))) (hat w hw)
  have hk' : (Cond.classLink own ik cls).before args s' = true := vx_ot_at hW0 hvm.symm (hgood _ List.mem_cons_self) hk
  have hini' : (Cond.initialized cls).before args s' = true := vx_ot_at hW0 hvm.symm (hgood _ (List.mem_cons_of_mem _ List.mem_cons_self)) hini
  have hU' : vx_Zq Bundle.tN "UNASSIGNED_STACK" Bundle.steD A s' s'.heap := by rw [hhp]; exact vx_Zq.moved hW0.alike (hU.kept hS.2.1)
  have hN' : vx_Zq Bundle.tN "SUPPRESSED_SENTINEL" Bundle.listD A s' s'.heap := by rw [hhp]; exact vx_Zq.moved hW0.alike (hN.kept hS.2.1)
  have h : ∀ w ∈ Bundle.ownAtoms own ic cls names, w.before args s' = true := vx_own hat' (vx_isRefq hU'.1) (vx_isRefq hN'.1) hU'.2.word hN'.2.word
  have hown' : s'.vm.findClass own = some m.cls := by rw [hvm]; exact hown
  have hins : (Cond.instantiable cls 6).before args s' = true := h _ (by simp [Bundle.ownAtoms])
  obtain ⟨vm₁, cX, kX, hfX, hkX, -, -, X₁, st1⟩ := Y.newCold hexec (own := own) (C := cls) (index := ik) (n := 6) hown' hk' hins hini'
    (g := F0 m pc ls rest) rfl (by rw [hb]; exact d0) (Nat.le_refl _) (Nat.le_refl _)
  generalize hT1 : (T.setVm vm₁).pushCell { cls := cX, slots := kX.instanceTypes.map defaultValue, vm := .none } = T1 at X₁ st1
  have hcat : (Value.ref T.heap.size).category = 1 := rfl
  have hcellA : T1.heap[T.heap.size]? = some (freshCell cX kX) := by rw [← hT1]; exact State.heap_pushCell_size _ _
  have d3' : decode c.code (pc + 3) = .ok (.dup, 1) := by rw [hb]; exact d3
  have d4' : decode c.code (pc + 4) = .ok (.ldc is, 2) := by rw [hb]; exact d4
  have hstr' : vk_R own is text sa s' := vk_R.warm hW0 hstr
  obtain ⟨U, hsteps, hrun, hend, hW, hsame, ce, hce, hO⟩ := X₁.ctorThrowS hexec htr (own := own) (cls := cls) (names := names) (ic := ic) hown' hcls hnames h (fun x hx => nomatch hx) hfX hkX hcellA (by rw [hhp, hT]; exact Nat.le_refl _) (msg := .ref sa) rfl
    (g := { method := m, pc := pc + 6, locals := ls, stack := .ref sa :: .ref T.heap.size :: .ref T.heap.size :: rest, locked := none }) rfl hsize rfl rfl (rest := rest) rfl
    (by rw [hb]; exact d6) (by rw [hb]; exact d9) hout hRframes (by simp only [List.map_cons, List.sum_cons, hcat]; omega) hlocks
  obtain ⟨f1, f2⟩ := vx_frame hsame
  rw [hhp] at f1 f2
  have hWs : s.WarmedH U.vm := State.WarmedH.trans hW0 hW
  have hcl : s.vm.findClass cls = some ce.cls := by
    have h9 := hO.cls
    rw [hvm] at h9
    exact h9
  have hall : s.sameButNew ({ U with vm := s.vm } : State) locs mc ms := by
    subst hA
    obtain ⟨e1, e2⟩ := hsame
    rw [State.setFrames_setFrames] at e1
    have h2 : (T.setVm s.vm).sameButNew ({ U with vm := s.vm } : State) [] (0 + 1) (0 + 6) := ⟨e1, e2⟩
    have h3 := X.same.trans h2
    rw [List.append_nil] at h3
    exact h3.mono hc hs
  refine ⟨U, ?_, .threw T.heap.size, hrun, hend, Or.inr ⟨T.heap.size, rfl, cls, ce, locs, hx U hWs.alike f1 (fun q hq => f2 q hq (fun z hz => nomatch hz)), hce, hO.vm, hcl, hWs, hall, hf⟩⟩
  refine st1 _ ?_
  show Steps p.tables e below (T1.setTop { method := m, pc := pc + 3, locals := ls, stack := .ref T.heap.size :: rest, locked := none }) _
  jvm_step X₁.here [X₁.here.top, hexec, d3', Value.category]
  exact X₁.ldcString hexec (own := own) (text := text) (index := is) (a := sa) hown' hstr'.1 hstr'.2
    (g := { method := m, pc := pc + 4, locals := ls, stack := .ref T.heap.size :: .ref T.heap.size :: rest, locked := none }) rfl d4' _ hsteps
/-- 'throw new E("text")', the text by a wide index -/
theorem vx_throwSW {cc : ByteArray} {pc : Nat} (hexec : p.tables.exec = Jvm.exec) (hb : c.code = cc) (hl : l.stackTraces = false) {own cls text : String} {names : List String} {ik is ic mc ms sa : Nat} {A : Nat → Prop}
    (hown : s.vm.findClass own = some m.cls) (hcls : Bundle.fit cls = true) (hnames : ∀ n ∈ names, Bundle.fit n = true)
    (hk : (Cond.classLink own ik cls).before args s = true) (hini : (Cond.initialized cls).before args s = true) (hstr : vk_R own is text sa s) (hat : ∀ w ∈ vx_atS own ic cls names, w.before args s = true)
    (hgood : ∀ w ∈ Cond.classLink own ik cls :: Cond.initialized cls :: vx_atS own ic cls names, vx_ot w = true)
    (hU : vx_Zq Bundle.tN "UNASSIGNED_STACK" Bundle.steD A s s.heap) (hN : vx_Zq Bundle.tN "SUPPRESSED_SENTINEL" Bundle.listD A s s.heap) (hS : va_S A s.heap H locs) (hsize : ls.size = c.maxLocals)
    (d0 : decode cc pc = .ok (.new ik, 3)) (d3 : decode cc (pc + 3) = .ok (.dup, 1)) (d4 : decode cc (pc + 4) = .ok (.ldc_w is, 3)) (d7 : decode cc (pc + 7) = .ok (.invokespecial ic, 3)) (d10 : decode cc (pc + 10) = .ok (.athrow, 1))
    (hout : ∀ x ∈ c.exceptionTable.toList, covers x (pc + 10) = false)
    (hRframes : names.length + 3 < R.frames) (hRlocals : (rest.map fun v => v.category).sum + (13 * (names.length + 1) + 43) ≤ R.locals) (hRcells : cells + 1 ≤ R.cells) (hRslots : slots + 6 ≤ R.slots) (hlocks : meth.locks = false)
    (hx : ∀ t : State, s.vm.Alike t.vm → H.size ≤ t.heap.size → (∀ q : Nat, q < H.size → t.heap[q]? = H[q]?) → XC cls s t)
    (hf : ∀ z ∈ locs, free z.base) (hc : cells + 1 ≤ mc) (hs : slots + 6 ≤ ms) :
    W p l e R s m args below meth c H locs cells slots (vx_MQ below Qc XC args s mc ms free) (F0 m pc ls rest) := by
  intro T hT X
  have htr : e.platform.stackTraces = false := (show e.platform.stackTraces = l.stackTraces by rw [X.admits.platform]).trans hl
  have Y := vx_rebase X (R' := { frames := R.frames, locals := R.locals, cells := 1, slots := 6 }) (Nat.le_refl _) (Nat.le_refl _) hRcells hRslots
  obtain ⟨s', hA⟩ : ∃ z, z = (T.setVm s.vm).setFrames (.invoking m args :: below) := ⟨_, rfl⟩
  rw [← hA] at Y
  have hvm : s'.vm = s.vm := by rw [hA]; rfl
  have hhp : s'.heap = H := by rw [hA]; exact hT
  have hW0 : s.WarmedH s'.vm := by rw [hvm]; exact State.WarmedH.refl s
  have hat' : ∀ w ∈ vx_atS own ic cls names, w.before args s' = true := fun w hw => vx_ot_at hW0 hvm.symm (hgood w (List.mem_cons_of_mem _ (List.mem_cons_of_mem _ hw))) (hat w hw)
  have hk' : (Cond.classLink own ik cls).before args s' = true := vx_ot_at hW0 hvm.symm (hgood _ List.mem_cons_self) hk
  have hini' : (Cond.initialized cls).before args s' = true := vx_ot_at hW0 hvm.symm (hgood _ (List.mem_cons_of_mem _ List.mem_cons_self)) hini
  have hU' : vx_Zq Bundle.tN "UNASSIGNED_STACK" Bundle.steD A s' s'.heap := by rw [hhp]; exact vx_Zq.moved hW0.alike (hU.kept hS.2.1)
  have hN' : vx_Zq Bundle.tN "SUPPRESSED_SENTINEL" Bundle.listD A s' s'.heap := by rw [hhp]; exact vx_Zq.moved hW0.alike (hN.kept hS.2.1)
  have h : ∀ w ∈ Bundle.ownAtoms own ic cls names, w.before args s' = true := vx_own hat' (vx_isRefq hU'.1) (vx_isRefq hN'.1) hU'.2.word hN'.2.word
  have hown' : s'.vm.findClass own = some m.cls := by rw [hvm]; exact hown
  have hins : (Cond.instantiable cls 6).before args s' = true := h _ (by simp [Bundle.ownAtoms])
  obtain ⟨vm₁, cX, kX, hfX, hkX, -, -, X₁, st1⟩ := Y.newCold hexec (own := own) (C := cls) (index := ik) (n := 6) hown' hk' hins hini'
    (g := F0 m pc ls rest) rfl (by rw [hb]; exact d0) (Nat.le_refl _) (Nat.le_refl _)
  generalize hT1 : (T.setVm vm₁).pushCell { cls := cX, slots := kX.instanceTypes.map defaultValue, vm := .none } = T1 at X₁ st1
  have hcat : (Value.ref T.heap.size).category = 1 := rfl
  have hcellA : T1.heap[T.heap.size]? = some (freshCell cX kX) := by rw [← hT1]; exact State.heap_pushCell_size _ _
  have d3' : decode c.code (pc + 3) = .ok (.dup, 1) := by rw [hb]; exact d3
  have d4' : decode c.code (pc + 4) = .ok (.ldc_w is, 3) := by rw [hb]; exact d4
  have hstr' : vk_R own is text sa s' := vk_R.warm hW0 hstr
  obtain ⟨U, hsteps, hrun, hend, hW, hsame, ce, hce, hO⟩ := X₁.ctorThrowS hexec htr (own := own) (cls := cls) (names := names) (ic := ic) hown' hcls hnames h (fun x hx => nomatch hx) hfX hkX hcellA (by rw [hhp, hT]; exact Nat.le_refl _) (msg := .ref sa) rfl
    (g := { method := m, pc := pc + 7, locals := ls, stack := .ref sa :: .ref T.heap.size :: .ref T.heap.size :: rest, locked := none }) rfl hsize rfl rfl (rest := rest) rfl
    (by rw [hb]; exact d7) (by rw [hb]; exact d10) hout hRframes (by simp only [List.map_cons, List.sum_cons, hcat]; omega) hlocks
  obtain ⟨f1, f2⟩ := vx_frame hsame
  rw [hhp] at f1 f2
  have hWs : s.WarmedH U.vm := State.WarmedH.trans hW0 hW
  have hcl : s.vm.findClass cls = some ce.cls := by
    have h9 := hO.cls
    rw [hvm] at h9
    exact h9
  have hall : s.sameButNew ({ U with vm := s.vm } : State) locs mc ms := by
    subst hA
    obtain ⟨e1, e2⟩ := hsame
    rw [State.setFrames_setFrames] at e1
    have h2 : (T.setVm s.vm).sameButNew ({ U with vm := s.vm } : State) [] (0 + 1) (0 + 6) := ⟨e1, e2⟩
    have h3 := X.same.trans h2
    rw [List.append_nil] at h3
    exact h3.mono hc hs
  refine ⟨U, ?_, .threw T.heap.size, hrun, hend, Or.inr ⟨T.heap.size, rfl, cls, ce, locs, hx U hWs.alike f1 (fun q hq => f2 q hq (fun z hz => nomatch hz)), hce, hO.vm, hcl, hWs, hall, hf⟩⟩
  refine st1 _ ?_
  show Steps p.tables e below (T1.setTop { method := m, pc := pc + 3, locals := ls, stack := .ref T.heap.size :: rest, locked := none }) _
  jvm_step X₁.here [X₁.here.top, hexec, d3', Value.category]
  exact X₁.ldcStringW hexec (own := own) (text := text) (index := is) (a := sa) hown' hstr'.1 hstr'.2
    (g := { method := m, pc := pc + 4, locals := ls, stack := .ref T.heap.size :: .ref T.heap.size :: rest, locked := none }) rfl d4' _ hsteps
end Ends
section Bodies
variable {l : Launch}
theorem vx_ofW {y : MethodName} {ws ws' : List Cond} {rm : Room} {Pc : Array Value → State → Prop} {Qc : Array Value → State → Outcome → State → Prop} {XC : String → State → State → Prop} {mc ms : Nat} {free : Addr → Prop} {cc : ByteArray} {maxL : Nat} {ret : Option FieldType}
    (hy : plainName y.cls = true) (hw : ws = Cond.code y cc maxL ret :: ws')
    (body : ∀ p e s m args below meth c s₁, BodyLoose p l y (headSpec ws rm) cc maxL ret e s m args below meth c s₁ → c.maxLocals = maxL → (∀ x ∈ c.exceptionTable.toList, False) → Pc args s →
      W p l e (headSpec ws rm).room s m args below meth c s.heap [] 0 0 (vx_MQ below Qc XC args s mc ms free) (entryFrame m args maxL)) : vx_Met l y ws rm Pc Qc XC mc ms free := by
  refine MetFree.of_bodyS (code := cc) (maxLocals := maxL) (ret := ret) hy ?_ ?_
  · intro args s m h hn
    obtain ⟨meth, c, h1, h2, h3, h4, h5, h6, -, -⟩ := Cond.code_spec hn (atoms_spec (ws := ws) h _ (by rw [hw]; exact List.mem_cons_self))
    exact ⟨meth, c, h1, h2, h3, h4, h5, h6⟩
  · intro p e s m args below meth c s₁ B hml hP _
    have hh0 : s₁.heap = s.heap := by rw [B.state]; rfl
    have ht : ∀ x ∈ c.exceptionTable.toList, False := by
      obtain ⟨meth9, c9, h1, h2, -, -, -, -, h7, -⟩ := Cond.code_spec B.named (atoms_spec (ws := ws) B.pre _ (by rw [hw]; exact List.mem_cons_self))
      cases Option.some.inj (h1.symm.trans B.method)
      cases Option.some.inj (h2.symm.trans (Stand.of_body B).code)
      intro x hx
      rw [Array.isEmpty_iff.mp h7] at hx
      cases hx
    obtain ⟨t, a1, o, b1, b2, b3⟩ := body p e s m args below meth c s₁ B hml ht hP s₁ hh0 (Stand.of_body B)
    exact ⟨t, o, a1, b1, b2, b3⟩
/-- the table of a body with handlers -/
theorem vx_table {p : Program} {x y : MethodName} {S : Spec} {cc bytes : ByteArray} {maxL maxL' : Nat} {ret ret' : Option FieldType} {e : Env} {s s₁ : State} {m : MethodId} {args : Array Value} {below : List Frame} {meth : Method} {c : Code} {hh : List (Nat × Nat × Nat × Nat)}
    (B : BodyLoose p l y S cc maxL ret e s m args below meth c s₁) (h : (Cond.codeWith y bytes maxL' ret' hh).before args s = true) : c.exceptionTable.toList = tableOf hh := by
  obtain ⟨m9, meth9, c9, hn9, h1, h2, -, -, h6, -⟩ := Cond.codeWith_spec h
  cases Option.some.inj (hn9.symm.trans B.named)
  cases Option.some.inj (h1.symm.trans B.method)
  cases Option.some.inj (h2.symm.trans (Stand.of_body B).code)
  rw [← h6, table_eq]
end Bodies
end VXA
/-! ===== END ===== -/
/-! ===== BEGIN a static call of a method with an exception table ===== -/
section VXS
variable {p : Program} {l : Launch} {e : Env} {R : Room} {s : State} {m : MethodId} {args : Array Value} {below : List Frame} {meth : Method} {c : Code} {T : State} {H : Heap} {locs : List Loc} {cells slots : Nat}
abbrev vx_CSW (R : Room) (s : State) (args : Array Value) (own : String) (index : Nat) (y : MethodName) (bytes : ByteArray) (maxL : Nat) (ret : Option FieldType) (hh : List (Nat × Nat × Nat × Nat)) (ws : List Cond) (rm : Room) (mc ms n : Nat) : Prop :=
  (rm.cells = mc ∧ rm.slots = ms ∧ rm.frames + 1 ≤ R.frames ∧ 8 + (maxL + 11) + rm.locals ≤ R.locals ∧ (∀ w ∈ ws, ∀ (a' : Array Value) (U : State), s.WarmedH U.vm → w.before a' U = true) ∧ Cond.codeWith y bytes maxL ret hh ∈ ws) ∧
  (Cond.codeWith y bytes maxL ret hh).before args s = true ∧ (Cond.initialized y.cls).before args s = true ∧ (y.cls ≠ "java/lang/invoke/MethodHandle" ∧ y.cls ≠ "java/lang/invoke/VarHandle") ∧
  (∀ sig, parseMethodDescriptor y.desc = some sig → n = sig.parameters.length) ∧ (Cond.methodLink own index y).before args s = true ∧ (Cond.static y).before args s = true
theorem vx_cwSW {own : String} {index maxL mc ms : Nat} {y : MethodName} {bytes : ByteArray} {ret : Option FieldType} {hh : List (Nat × Nat × Nat × Nat)} {Ts ws ws' : List Cond} {rm : Room} (n : Nat) (ht : ∀ w ∈ Ts, w.before args s = true) (hT : GoodIn Ts (va_wsS own index y ws)) (hw : ws = Cond.codeWith y bytes maxL ret hh :: ws') (hrc : rm.cells = mc) (hrs : rm.slots = ms)
    (hd : y.cls ≠ "java/lang/invoke/MethodHandle" ∧ y.cls ≠ "java/lang/invoke/VarHandle" ∧ (parseMethodDescriptor y.desc).map (fun d => d.parameters.length) = some n) (hR : rm.frames + 1 ≤ R.frames ∧ 8 + (maxL + 11) + rm.locals ≤ R.locals) :
    vx_CSW R s args own index y bytes maxL ret hh ws rm mc ms n := by
  have ok : ∀ w ∈ va_wsS own index y ws, w.before args s = true := fun w h => ht w (hT w h).1
  have hG : GoodIn Ts ws := fun w h => hT w (by unfold va_wsS; exact List.mem_append_right _ h)
  have hc : Cond.codeWith y bytes maxL ret hh ∈ ws := by rw [hw]; exact List.mem_cons_self
  refine ⟨⟨hrc, hrs, hR.1, hR.2, pay_in ht hG, hc⟩, ht _ (hG _ hc).1, ok _ (by simp [va_wsS]), ⟨hd.1, hd.2.1⟩, fun sig h => ?_, ok _ (by simp [va_wsS]), ok _ (by simp [va_wsS])⟩
  have h2 := hd.2.2
  rw [h] at h2
  exact (Option.some.inj h2).symm
theorem vx_callSW (X : Stand p l e R s m args below meth c T locs cells slots) (hexec : p.tables.exec = Jvm.exec) {own : String} {index : Nat} {y : MethodName} {bytes : ByteArray} {maxL : Nat} {ret : Option FieldType} {hh : List (Nat × Nat × Nat × Nat)}
    (hown : s.vm.findClass own = some m.cls) (hlink : (Cond.methodLink own index y).before args s = true) (hstat : (Cond.static y).before args s = true) (hinit : (Cond.initialized y.cls).before args s = true)
    (hcode : (Cond.codeWith y bytes maxL ret hh).before args s = true) (hy : y.cls ≠ "java/lang/invoke/MethodHandle" ∧ y.cls ≠ "java/lang/invoke/VarHandle")
    {W9 : Nat} {Pre : Pt → Array Value → Prop} {Post : Pt → Array Value → Option Value → Pt → Prop} (hK : Back l R p e below s args y 3 W9 Pre Post)
    {g : JFrame} (hg : g.method = m) (hsize : g.locals.size = c.maxLocals) {argsL rest : List Value} (hlen : ∀ sig, parseMethodDescriptor y.desc = some sig → argsL.length = sig.parameters.length)
    (hstack : g.stack = argsL.reverse ++ rest) (hW : 2 * g.monitorRoom + (rest.map fun v => v.category).sum ≤ W9) (hdg : decode c.code g.pc = .ok (.invokestatic index, 3))
    (hpre : ∀ vm₁, s.WarmedH vm₁ → Pre ⟨T.setVm vm₁, locs, cells, slots⟩ argsL.toArray) :
    ∃ (v : Option Value) (vm₁ : Vm) (B : Pt), s.WarmedH vm₁ ∧ Stand p l e R s m args below meth c B.U B.locs B.cells B.slots ∧ Post ⟨T.setVm vm₁, locs, cells, slots⟩ argsL.toArray v B ∧
      ∀ target, Steps p.tables e below (B.U.setTop { g with pc := g.pc + 3, stack := v.toList ++ rest }) target → Steps p.tables e below (T.setTop g) target := by
  obtain ⟨mk, methM, cM, hnamed, hmethM, -, -, -, -, -, -, hsigM⟩ := Cond.codeWith_spec hcode
  have hstatic : methM.isStatic = true := Cond.static_spec hnamed hmethM hstat
  obtain ⟨kP, hkP, -⟩ := className_of_methodNamed hnamed
  have hinitP : kP.init = .initialized := Cond.initialized_spec (findClass_of_methodNamed hnamed) hkP hinit
  obtain ⟨vm₁, X₁, hstep₁⟩ := X.invokestatic hexec hown hlink hnamed hmethM hstatic hkP hinitP hy (g := g) hg (argsL := argsL) (rest := rest) (hlen _ hsigM) hstack hdg
  obtain ⟨v, B, X', hpost, hsteps⟩ := hK m meth c ⟨T.setVm vm₁, locs, cells, slots⟩ { g with stack := rest } (.invokestatic index) mk argsL.toArray X₁ hg hsize hdg hW (X₁.named hnamed) (hpre vm₁ X₁.warmed)
  exact ⟨v, vm₁, B, X₁.warmed, X', hpost, fun target h => hstep₁ _ fun acts => by rw [doInvoke_state]; exact hsteps.trans h⟩
theorem vx_runSW {y : MethodName} {bytes cc : ByteArray} {maxL nL mc ms n index : Nat} {ret : Option FieldType} {hh : List (Nat × Nat × Nat × Nat)} {ws : List Cond} {rm : Room} {Pc : Array Value → State → Prop} {Qc : Array Value → State → Outcome → State → Prop} {free : Addr → Prop} {Ts : List Cond} {own : String} {As rest : List Value} {g : JFrame}
    (S : CallFix p m c cc nL s args Ts own) (hM : Met l y ws rm Pc Qc mc ms free) (cw : vx_CSW R s args own index y bytes maxL ret hh ws rm mc ms n) (hp : PreS s H Pc As)
    (hg : g.method = m) (hn : As.length = n) (hsize : g.locals.size = nL) (hstack : g.stack = As.reverse ++ rest) (hW : 2 * g.monitorRoom + (rest.map fun v => v.category).sum ≤ 8) (hdg : decode cc g.pc = .ok (.invokestatic index, 3)) (hf : cells + mc ≤ R.cells ∧ slots + ms ≤ R.slots) :
    va_Run p l e R s m args below meth c H locs cells slots mc ms g rest (Qc As.toArray) (free) := by
  obtain ⟨⟨hrc, hrs, hfr, hlo, hws, hcw⟩, hcode, hini, hy, hlen, hl, hstt⟩ := cw
  have hK : Back l R p e below s args y 3 8 (PreOf R mc ms Pc) (PostOf Qc mc ms free) := va_backW (hh := hh) (bytes := bytes) (maxL := maxL) (ret := ret) hM hp.1 hrc hrs hfr hlo hws hcw (fun a' U hW => word_at hW (Or.inl (by first | rfl | simp [Cond.onTables, Cond.keeps, Cond.steady])) hini)
  obtain ⟨hx, hb, hml, ho, -⟩ := S
  intro T hT X
  obtain ⟨v, vm₁, ⟨U', l2, c2, s2⟩, hW₁, X', ⟨g', mk, t, L, e1, e2, hq, h1, hL, h2, h3⟩, st⟩ := vx_callSW X hx (hh := hh) (bytes := bytes) (maxL := maxL) (ret := ret) ho hl hstt hini hcode hy hK hg (hsize.trans hml.symm) (argsL := As) (rest := rest) (fun sig h => hn.trans (hlen sig h)) hstack hW (by rw [hb]; exact hdg)
    (fun vm₁ hW₁ => ⟨hf.1, hf.2, hp.2 (T.setVm vm₁) hT hW₁⟩)
  dsimp only [Pt.U, Pt.locs, Pt.cells, Pt.slots] at X' e1 e2 h1 h2 h3 st
  subst h1; subst h2; subst h3
  exact ⟨v, (T.setVm vm₁).calling g' mk As.toArray, t, U', L, hT, X', hL, e1, e2, hq, st⟩
/-- not caught here, past rows that name other classes: it goes on to the caller -/
theorem vx_outP {p : Program} {l : Launch} {e : Env} {R : Room} {s : State} {m : MethodId} {args : Array Value} {below : List Frame} {meth : Method} {c : Code} {H : Heap} {locs : List Loc} {cells slots : Nat} {free : Addr → Prop} {ls : Array Slot} {rest : List Value} {Qc : Array Value → State → Outcome → State → Prop} {XC : String → State → State → Prop}
    {pc : Nat} {own E : String} {ce : Cell} {q : Addr} {mc ms : Nat} (hown : s.vm.findClass own = some m.cls) (hlocks : meth.locks = false)
    (hpass : ∀ z ∈ c.exceptionTable.toList, covers z pc = false ∨ (z.catchType ≠ 0 ∧ ∃ nm : String, (Cond.classLink own z.catchType nm).before args s = true ∧ va_Nc E nm s)) (hcell : H[q]? = some ce) (hv : ce.vm = .none) (hcl : s.vm.findClass E = some ce.cls)
    (hx : ∀ t : State, t.heap = H → s.vm.Alike t.vm → XC E s t) (hf : ∀ z ∈ locs, free z.base) (hc : cells ≤ mc) (hs : slots ≤ ms) :
    vx_W p l e R s m args below meth c H locs cells slots (vx_MQ below Qc XC args s mc ms free) (F0 m pc ls rest) q := by
  intro T hT X
  have hpl : e.platform.magicAccessors = ({} : Platform).magicAccessors := by rw [X.admits.platform]
  obtain ⟨vm', hW', X', st⟩ := X.outThrough hlocks q (g := F0 m pc ls rest) rfl rfl rfl (cell := ce) (by rw [hT]; exact hcell) (by rw [hv]; rfl)
    (by obtain ⟨k9, h9, -⟩ := Vm.findClass_spec hcl; exact ⟨k9, h9⟩) (fun z hz => by
      rcases hpass z hz with h | ⟨hz0, nm, hl1, hn1⟩
      · exact Or.inl h
      · obtain ⟨c6, hc6, hcl6⟩ := Cond.classLink_spec hown hl1 e.platform hpl
        obtain ⟨a8, b8, h1, h2, h3⟩ := hn1
        cases Option.some.inj (h1.symm.trans hcl)
        cases Option.some.inj (h2.symm.trans hc6)
        exact Or.inr ⟨hz0, _, hcl6, h3⟩)
  obtain ⟨g₀, hfr⟩ := X'.frames_eq
  have hcell9 : ((T.setVm vm').setFrames (.throwing q :: below)).heap[q]? = some ce := by
    show T.heap[q]? = some ce
    rw [hT]; exact hcell
  have hend : Ended ((T.setVm vm').setFrames (.throwing q :: below)) below (.threw q) := State.frames_setFrames _ (State.cur_lt_of_frames hfr)
  refine ⟨(T.setVm vm').setFrames (.throwing q :: below), ?_, .threw q, X'.here.running, hend, Or.inr ⟨q, rfl, E, ce, locs, hx _ hT (X'.ends _).1.alike, hcell9, hv, hcl, (X'.ends _).1, (X'.ends _).2.mono hc hs, hf⟩⟩
  rw [X.pushThrowing_eq]
  exact st
/-- a thing of a world lies in the heap -/
theorem vx_lt {D : va_G} {cl : List vw_C} {ws : va_W} {H1 : Heap} (h : va_P D cl ws H1) {k : Nat} {q : Nat × va_E} (hk : ws[k]? = some q) : q.1 < H1.size := (h k q hk).lt
end VXS
/-! ===== END ===== -/
/-! ===== BEGIN methods with a table of their own: called by a name, returning or throwing ===== -/
section VXH
/-! vx_backW, vx_callVX, vx_callSX, vx_callVW, vx_runVW, vx_runVX, vx_runSX, vx_ofWH follow the same proofs as their sisters above (Free/Laws.lean, Shelf42/LK1.lean); vx_outP calls Shelf42/NT130.lean (outThrough). -/
section
variable {l : Launch} {R : Room} {p : Program} {e : Env} {below : List Frame} {s : State} {sargs : Array Value} {y : MethodName} {len W9 : Nat}
theorem vx_backW {ws : List Cond} {rm : Room} {Pc : Array Value → State → Prop} {Qc : Array Value → State → Outcome → State → Prop} {XC : String → State → State → Prop} {mc ms : Nat} {free : Addr → Prop} {bytes : ByteArray} {maxL : Nat} {ret : Option FieldType} {hh : List (Nat × Nat × Nat × Nat)}
    (hM : vx_Met l y ws rm Pc Qc XC mc ms free) (hblind : FrameBlind Pc) (hrc : rm.cells = mc) (hrs : rm.slots = ms)
    (hframes : rm.frames + 1 ≤ R.frames) (hlocals : W9 + (maxL + 11) + rm.locals ≤ R.locals)
    (hws : ∀ w ∈ ws, ∀ a' U, s.WarmedH U.vm → w.before a' U = true) (hcode : Cond.codeWith y bytes maxL ret hh ∈ ws) (hinit : ∀ a' U, s.WarmedH U.vm → (Cond.initialized y.cls).before a' U = true) :
    vx_Back l R p e below s sargs y len W9 (PreOf R mc ms Pc) (PostOf Qc mc ms free) (vx_Post XC mc ms free) := by
  intro m meth c A g ig mk a X hg hsize hdg hW hn hp
  have h1 : (headSpec ws rm).pre.before a A.U = true := atoms_intro fun w hw => hws w hw _ _ X.warmed
  have h2 : (Cond.codeWith y bytes maxL ret hh).before a A.U = true := hws _ hcode _ _ X.warmed
  have h3 : (Cond.initialized y.cls).before a A.U = true := hinit _ _ X.warmed
  have h4 : A.cells + (headSpec ws rm).room.cells ≤ R.cells := by rw [show (headSpec ws rm).room.cells = mc from hrc]; exact hp.1
  have h5 : A.slots + (headSpec ws rm).room.slots ≤ R.slots := by rw [show (headSpec ws rm).room.slots = ms from hrs]; exact hp.2.1
  have hPc : Pc a (A.U.calling g mk a) := hblind _ _ _ _ hp.2.2
  obtain ⟨U, Ls, c0, s0⟩ := A
  dsimp only [Pt.U, Pt.locs, Pt.cells, Pt.slots] at h1 h2 h3 h4 h5 X hn hPc ⊢
  obtain ⟨m9, methY, cY, hn9, hmY, hcY, -, hlY, -⟩ := Cond.codeWith_spec h2
  cases Option.some.inj (hn9.symm.trans hn)
  obtain ⟨kY, hkY, -⟩ := className_of_methodNamed hn
  have hinitY : kY.init = .initialized := Cond.initialized_spec (findClass_of_methodNamed hn) hkY h3
  have h : At U g.method c below := by rw [hg]; exact X.here
  have hlocals9 : W9 + (maxL + 11) + (headSpec ws rm).room.locals ≤ R.locals := hlocals
  have happ : (headSpec ws rm).appliesLoose y e.platform (U.calling g mk a) = true :=
    Spec.appliesLoose_calling (g := g) h hdg hn hkY hinitY
      (X.room_calling (g := g) (R' := (headSpec ws rm).room) hsize hmY hcY hframes (by rw [hlY]; omega) h4 h5) h1
  obtain ⟨mid, hmid⟩ := h.above
  have hfr : (U.setTop g).frames = (.java g :: mid) ++ below := by rw [State.frames_setTop' g h.top, hmid]; rfl
  obtain ⟨o, s₂, hsteps, -, hend, hq⟩ := Steps.callFree hM p X.admits X.cas X.clock (acts := []) hfr happ hPc trivial
  have hq' : vx_Q Qc XC mc ms free a (U.calling g mk a) o s₂ := hq
  rw [State.frames_setTop' g h.top] at hend
  obtain ⟨g₀, hg0⟩ := Option.isSome_iff_exists.mp h.top
  obtain ⟨r, hr⟩ := State.topJava?_eq_some.mp hg0
  have hr' : (({ U with heap := s₂.heap, slotsUsed := s₂.slotsUsed } : State).setVm s₂.vm).frames = .java g₀ :: r := hr
  rcases hq' with ⟨hqc, L, hfe, hL⟩ | ⟨q, rfl, E, ce, L, hx, hce, hcv, hcl, hW₂, hsm, hL⟩
  · obtain ⟨⟨v, rfl⟩, hW₂, e2, q2, q3, q4, q5, q6⟩ := id hfe
    have e3 : s₂ = ({ (U.calling g mk a).setFrames s₂.frames with heap := s₂.heap, slotsUsed := s₂.slotsUsed } : State).setVm s₂.vm := by
      have : s₂ = ({ s₂ with vm := (U.calling g mk a).vm } : State).setVm s₂.vm := rfl
      rw [e2] at this
      exact this
    obtain ⟨c₂, i₂, len₂, hc₂, hd₂, hf₂⟩ := hend
    have hW' : U.WarmedH s₂.vm := hW₂
    have hcc : c₂ = c := by
      have h1 : s₂.code? g.method = U.code? g.method := by
        rw [State.code?_eq, State.code?_eq, hW'.alike.method?]
      exact Option.some.inj (hc₂.symm.trans (h1.trans h.code))
    subst hcc
    have hlen : len₂ = len := by rw [hdg] at hd₂; cases hd₂; rfl
    subst hlen
    have hs₂ : s₂ = (({ U with heap := s₂.heap, slotsUsed := s₂.slotsUsed } : State).setVm s₂.vm).setTop { g with pc := g.pc + len₂, stack := v.toList ++ g.stack } := by
      refine e3.trans ?_
      rw [hf₂, State.calling_eq h.top, State.setFrames_setFrames, State.setTop_of_frames _ hr', hr]
      rfl
    have hsame : U.sameButNew ({ U with heap := s₂.heap, slotsUsed := s₂.slotsUsed } : State) L mc ms := by
      refine ⟨?_, q2, q3, q4, q5, q6⟩
      obtain ⟨t, ht, -⟩ := State.frames_cons hr
      show ({ U with heap := s₂.heap, slotsUsed := s₂.slotsUsed } : State) = { U.setFrames U.frames with heap := s₂.heap, slotsUsed := s₂.slotsUsed }
      rw [State.setFrames_self ht]
    subst hg
    refine Or.inl ⟨v, ⟨(({ U with heap := s₂.heap, slotsUsed := s₂.slotsUsed } : State).setVm s₂.vm), Ls ++ L, c0 + mc, s0 + ms⟩,
      ⟨X.admits, X.cas, X.clock, X.frames, X.room, X.hears, X.method, X.code, (X.here.setHeapUsed s₂.heap s₂.slotsUsed).setVm hW'.alike, X.tail, State.WarmedH.trans X.warmed hW', X.limits, X.bytes, X.same.trans (hsame.setVm s.vm)⟩,
      ⟨g, mk, s₂, L, rfl, rfl, hqc, rfl, hL, rfl, rfl⟩, ?_⟩
    show Steps p.tables e below _ ((({ U with heap := s₂.heap, slotsUsed := s₂.slotsUsed } : State).setVm s₂.vm).setTop { g with pc := g.pc + len₂, stack := v.toList ++ g.stack })
    rw [← hs₂]
    exact hsteps
  · obtain ⟨e2, q2, q3, q4, q5, q6⟩ := id hsm
    have e3 : s₂ = ({ (U.calling g mk a).setFrames s₂.frames with heap := s₂.heap, slotsUsed := s₂.slotsUsed } : State).setVm s₂.vm := by
      have : s₂ = ({ s₂ with vm := (U.calling g mk a).vm } : State).setVm s₂.vm := rfl
      rw [e2] at this
      exact this
    have hf₂ : s₂.frames = .throwing q :: .java g :: U.frames.tail := hend
    have hW' : U.WarmedH s₂.vm := hW₂
    have hs₂ : s₂ = ((({ U with heap := s₂.heap, slotsUsed := s₂.slotsUsed } : State).setVm s₂.vm).setTop g).pushFrame (.throwing q) := by
      refine e3.trans ?_
      rw [hf₂, State.calling_eq h.top, State.setFrames_setFrames, State.pushFrame, State.frames_setTop _ hr', State.setTop_of_frames _ hr', State.setFrames_setFrames, hr]
      rfl
    have hsame : U.sameButNew ({ U with heap := s₂.heap, slotsUsed := s₂.slotsUsed } : State) L mc ms := by
      refine ⟨?_, q2, q3, q4, q5, q6⟩
      obtain ⟨t, ht, -⟩ := State.frames_cons hr
      show ({ U with heap := s₂.heap, slotsUsed := s₂.slotsUsed } : State) = { U.setFrames U.frames with heap := s₂.heap, slotsUsed := s₂.slotsUsed }
      rw [State.setFrames_self ht]
    subst hg
    refine Or.inr ⟨q, ⟨(({ U with heap := s₂.heap, slotsUsed := s₂.slotsUsed } : State).setVm s₂.vm), Ls ++ L, c0 + mc, s0 + ms⟩,
      ⟨X.admits, X.cas, X.clock, X.frames, X.room, X.hears, X.method, X.code, (X.here.setHeapUsed s₂.heap s₂.slotsUsed).setVm hW'.alike, X.tail, State.WarmedH.trans X.warmed hW', X.limits, X.bytes, X.same.trans (hsame.setVm s.vm)⟩,
      ⟨g, mk, s₂, L, E, ce, rfl, rfl, hx, hce, hcv, hcl, rfl, hL, rfl, rfl⟩, ?_⟩
    show Steps p.tables e below _ (((({ U with heap := s₂.heap, slotsUsed := s₂.slotsUsed } : State).setVm s₂.vm).setTop g).pushFrame (.throwing q))
    rw [← hs₂]
    exact hsteps
end
variable {p : Program} {l : Launch} {e : Env} {R : Room} {s : State} {m : MethodId} {args : Array Value} {below : List Frame} {meth : Method} {c : Code} {T : State} {H : Heap} {locs : List Loc} {cells slots : Nat}
theorem vx_callVX (X : Stand p l e R s m args below meth c T locs cells slots) (hexec : p.tables.exec = Jvm.exec) {own C : String} {index : Nat} {y : MethodName} {bytes : ByteArray} {maxL : Nat} {ret : Option FieldType} {hh : List (Nat × Nat × Nat × Nat)}
    (hown : s.vm.findClass own = some m.cls) (hlink : (Cond.methodLink own index y).before args s = true) (hinst : (Cond.instanceMethod y).before args s = true) (hsel : (Cond.selects C y y).before args s = true)
    (hcode : (Cond.codeWith y bytes maxL ret hh).before args s = true) (hy : y.cls ≠ "java/lang/invoke/MethodHandle" ∧ y.cls ≠ "java/lang/invoke/VarHandle")
    {W9 : Nat} {Pre : Pt → Array Value → Prop} {Post : Pt → Array Value → Option Value → Pt → Prop} {PostX : Pt → Array Value → Addr → Pt → Prop} (hK : vx_Back l R p e below s args y 3 W9 Pre Post PostX)
    {b : Addr} {cellB : Cell} (hcell : T.heap[b]? = some cellB) (hobj : cellB.vm.isStatics = false) (hcls : s.vm.findClass C = some cellB.cls)
    {g : JFrame} (hg : g.method = m) (hsize : g.locals.size = c.maxLocals) {argsL rest : List Value} (hlen : ∀ sig, parseMethodDescriptor y.desc = some sig → argsL.length = sig.parameters.length)
    (hstack : g.stack = argsL.reverse ++ .ref b :: rest) (hW : 2 * g.monitorRoom + (rest.map fun v => v.category).sum ≤ W9) (hdg : decode c.code g.pc = .ok (.invokevirtual index, 3))
    (hpre : ∀ vm₁, s.WarmedH vm₁ → Pre ⟨T.setVm vm₁, locs, cells, slots⟩ (Value.ref b :: argsL).toArray) :
    (∃ (v : Option Value) (vm₁ : Vm) (B : Pt), s.WarmedH vm₁ ∧ Stand p l e R s m args below meth c B.U B.locs B.cells B.slots ∧ Post ⟨T.setVm vm₁, locs, cells, slots⟩ (Value.ref b :: argsL).toArray v B ∧
      ∀ target, Steps p.tables e below (B.U.setTop { g with pc := g.pc + 3, stack := v.toList ++ rest }) target → Steps p.tables e below (T.setTop g) target) ∨
    (∃ (q : Addr) (vm₁ : Vm) (B : Pt), s.WarmedH vm₁ ∧ Stand p l e R s m args below meth c B.U B.locs B.cells B.slots ∧ PostX ⟨T.setVm vm₁, locs, cells, slots⟩ (Value.ref b :: argsL).toArray q B ∧
      Steps p.tables e below (T.setTop g) ((B.U.setTop { g with stack := rest }).pushFrame (.throwing q))) := by
  obtain ⟨mk, methM, hnamed, hmethM, hstM, habM⟩ := Cond.instanceMethod_spec hinst
  obtain ⟨m8, methM', cM, hn8, hmethM', -, -, -, -, -, -, hsigM⟩ := Cond.codeWith_spec hcode
  cases Option.some.inj (hn8.symm.trans hnamed)
  cases hmethM.symm.trans hmethM'
  obtain ⟨c2, r2, m2, q1, q2, q3, q4, kP, hkP, hkPi⟩ := Cond.selects_spec hsel
  cases hcls.symm.trans q1
  cases (State.methodFound?_of_named hnamed hy).symm.trans q2
  cases hnamed.symm.trans q3
  have hselP : selectMethod e.platform s.vm cellB.cls mk = .method mk := by rw [Launch.admits_selectMethod X.admits]; exact q4
  obtain ⟨vm₁, X₁, hstep₁⟩ := X.invokevirtual hexec hown hlink hnamed hmethM hstM hkP hkPi hy (a := b) (cell := cellB) hcell
    (fun z h => by rw [h] at hobj; cases hobj) hselP hmethM habM hkP hkPi (g := g) hg (argsL := argsL) (rest := rest) (hlen _ hsigM) hstack hdg
  rcases hK m meth c ⟨T.setVm vm₁, locs, cells, slots⟩ { g with stack := rest } (.invokevirtual index) mk (Value.ref b :: argsL).toArray X₁ hg hsize hdg hW (X₁.named hnamed) (hpre vm₁ X₁.warmed) with ⟨v, B, X', hpost, hsteps⟩ | ⟨q, B, X', hpost, hsteps⟩
  · exact Or.inl ⟨v, vm₁, B, X₁.warmed, X', hpost, fun target h => hstep₁ _ fun acts => by rw [doInvoke_state]; exact hsteps.trans h⟩
  · exact Or.inr ⟨q, vm₁, B, X₁.warmed, X', hpost, hstep₁ _ fun acts => by rw [doInvoke_state]; exact hsteps⟩
theorem vx_callSX (X : Stand p l e R s m args below meth c T locs cells slots) (hexec : p.tables.exec = Jvm.exec) {own : String} {index : Nat} {y : MethodName} {bytes : ByteArray} {maxL : Nat} {ret : Option FieldType} {hh : List (Nat × Nat × Nat × Nat)}
    (hown : s.vm.findClass own = some m.cls) (hlink : (Cond.methodLink own index y).before args s = true) (hstat : (Cond.static y).before args s = true) (hinit : (Cond.initialized y.cls).before args s = true)
    (hcode : (Cond.codeWith y bytes maxL ret hh).before args s = true) (hy : y.cls ≠ "java/lang/invoke/MethodHandle" ∧ y.cls ≠ "java/lang/invoke/VarHandle")
    {W9 : Nat} {Pre : Pt → Array Value → Prop} {Post : Pt → Array Value → Option Value → Pt → Prop} {PostX : Pt → Array Value → Addr → Pt → Prop} (hK : vx_Back l R p e below s args y 3 W9 Pre Post PostX)
    {g : JFrame} (hg : g.method = m) (hsize : g.locals.size = c.maxLocals) {argsL rest : List Value} (hlen : ∀ sig, parseMethodDescriptor y.desc = some sig → argsL.length = sig.parameters.length)
    (hstack : g.stack = argsL.reverse ++ rest) (hW : 2 * g.monitorRoom + (rest.map fun v => v.category).sum ≤ W9) (hdg : decode c.code g.pc = .ok (.invokestatic index, 3))
    (hpre : ∀ vm₁, s.WarmedH vm₁ → Pre ⟨T.setVm vm₁, locs, cells, slots⟩ argsL.toArray) :
    (∃ (v : Option Value) (vm₁ : Vm) (B : Pt), s.WarmedH vm₁ ∧ Stand p l e R s m args below meth c B.U B.locs B.cells B.slots ∧ Post ⟨T.setVm vm₁, locs, cells, slots⟩ argsL.toArray v B ∧
      ∀ target, Steps p.tables e below (B.U.setTop { g with pc := g.pc + 3, stack := v.toList ++ rest }) target → Steps p.tables e below (T.setTop g) target) ∨
    (∃ (q : Addr) (vm₁ : Vm) (B : Pt), s.WarmedH vm₁ ∧ Stand p l e R s m args below meth c B.U B.locs B.cells B.slots ∧ PostX ⟨T.setVm vm₁, locs, cells, slots⟩ argsL.toArray q B ∧
      Steps p.tables e below (T.setTop g) ((B.U.setTop { g with stack := rest }).pushFrame (.throwing q))) := by
  obtain ⟨mk, methM, cM, hnamed, hmethM, -, -, -, -, -, -, hsigM⟩ := Cond.codeWith_spec hcode
  have hstatic : methM.isStatic = true := Cond.static_spec hnamed hmethM hstat
  obtain ⟨kP, hkP, -⟩ := className_of_methodNamed hnamed
  have hinitP : kP.init = .initialized := Cond.initialized_spec (findClass_of_methodNamed hnamed) hkP hinit
  obtain ⟨vm₁, X₁, hstep₁⟩ := X.invokestatic hexec hown hlink hnamed hmethM hstatic hkP hinitP hy (g := g) hg (argsL := argsL) (rest := rest) (hlen _ hsigM) hstack hdg
  rcases hK m meth c ⟨T.setVm vm₁, locs, cells, slots⟩ { g with stack := rest } (.invokestatic index) mk argsL.toArray X₁ hg hsize hdg hW (X₁.named hnamed) (hpre vm₁ X₁.warmed) with ⟨v, B, X', hpost, hsteps⟩ | ⟨q, B, X', hpost, hsteps⟩
  · exact Or.inl ⟨v, vm₁, B, X₁.warmed, X', hpost, fun target h => hstep₁ _ fun acts => by rw [doInvoke_state]; exact hsteps.trans h⟩
  · exact Or.inr ⟨q, vm₁, B, X₁.warmed, X', hpost, hstep₁ _ fun acts => by rw [doInvoke_state]; exact hsteps⟩
theorem vx_callVW (X : Stand p l e R s m args below meth c T locs cells slots) (hexec : p.tables.exec = Jvm.exec) {own C : String} {index : Nat} {y : MethodName} {bytes : ByteArray} {maxL : Nat} {ret : Option FieldType} {hh : List (Nat × Nat × Nat × Nat)}
    (hown : s.vm.findClass own = some m.cls) (hlink : (Cond.methodLink own index y).before args s = true) (hinst : (Cond.instanceMethod y).before args s = true) (hsel : (Cond.selects C y y).before args s = true)
    (hcode : (Cond.codeWith y bytes maxL ret hh).before args s = true) (hy : y.cls ≠ "java/lang/invoke/MethodHandle" ∧ y.cls ≠ "java/lang/invoke/VarHandle")
    {W9 : Nat} {Pre : Pt → Array Value → Prop} {Post : Pt → Array Value → Option Value → Pt → Prop} (hK : Back l R p e below s args y 3 W9 Pre Post)
    {b : Addr} {cellB : Cell} (hcell : T.heap[b]? = some cellB) (hobj : cellB.vm.isStatics = false) (hcls : s.vm.findClass C = some cellB.cls)
    {g : JFrame} (hg : g.method = m) (hsize : g.locals.size = c.maxLocals) {argsL rest : List Value} (hlen : ∀ sig, parseMethodDescriptor y.desc = some sig → argsL.length = sig.parameters.length)
    (hstack : g.stack = argsL.reverse ++ .ref b :: rest) (hW : 2 * g.monitorRoom + (rest.map fun v => v.category).sum ≤ W9) (hdg : decode c.code g.pc = .ok (.invokevirtual index, 3))
    (hpre : ∀ vm₁, s.WarmedH vm₁ → Pre ⟨T.setVm vm₁, locs, cells, slots⟩ (Value.ref b :: argsL).toArray) :
    ∃ (v : Option Value) (vm₁ : Vm) (B : Pt), s.WarmedH vm₁ ∧ Stand p l e R s m args below meth c B.U B.locs B.cells B.slots ∧ Post ⟨T.setVm vm₁, locs, cells, slots⟩ (Value.ref b :: argsL).toArray v B ∧
      ∀ target, Steps p.tables e below (B.U.setTop { g with pc := g.pc + 3, stack := v.toList ++ rest }) target → Steps p.tables e below (T.setTop g) target := by
  obtain ⟨mk, methM, hnamed, hmethM, hstM, habM⟩ := Cond.instanceMethod_spec hinst
  obtain ⟨m8, methM', cM, hn8, hmethM', -, -, -, -, -, -, hsigM⟩ := Cond.codeWith_spec hcode
  cases Option.some.inj (hn8.symm.trans hnamed)
  cases hmethM.symm.trans hmethM'
  obtain ⟨c2, r2, m2, q1, q2, q3, q4, kP, hkP, hkPi⟩ := Cond.selects_spec hsel
  cases hcls.symm.trans q1
  cases (State.methodFound?_of_named hnamed hy).symm.trans q2
  cases hnamed.symm.trans q3
  have hselP : selectMethod e.platform s.vm cellB.cls mk = .method mk := by rw [Launch.admits_selectMethod X.admits]; exact q4
  obtain ⟨vm₁, X₁, hstep₁⟩ := X.invokevirtual hexec hown hlink hnamed hmethM hstM hkP hkPi hy (a := b) (cell := cellB) hcell
    (fun z h => by rw [h] at hobj; cases hobj) hselP hmethM habM hkP hkPi (g := g) hg (argsL := argsL) (rest := rest) (hlen _ hsigM) hstack hdg
  obtain ⟨v, B, X', hpost, hsteps⟩ := hK m meth c ⟨T.setVm vm₁, locs, cells, slots⟩ { g with stack := rest } (.invokevirtual index) mk (Value.ref b :: argsL).toArray X₁ hg hsize hdg hW (X₁.named hnamed) (hpre vm₁ X₁.warmed)
  exact ⟨v, vm₁, B, X₁.warmed, X', hpost, fun target h => hstep₁ _ fun acts => by rw [doInvoke_state]; exact hsteps.trans h⟩
abbrev vx_CVW (R : Room) (s : State) (args : Array Value) (own C : String) (index : Nat) (y : MethodName) (bytes : ByteArray) (maxL : Nat) (ret : Option FieldType) (hh : List (Nat × Nat × Nat × Nat)) (ws : List Cond) (rm : Room) (mc ms n : Nat) : Prop :=
  (rm.cells = mc ∧ rm.slots = ms ∧ rm.frames + 1 ≤ R.frames ∧ 8 + (maxL + 11) + rm.locals ≤ R.locals ∧ (∀ w ∈ ws, ∀ (a' : Array Value) (U : State), s.WarmedH U.vm → w.before a' U = true) ∧ Cond.codeWith y bytes maxL ret hh ∈ ws) ∧
  (Cond.codeWith y bytes maxL ret hh).before args s = true ∧ (Cond.initialized y.cls).before args s = true ∧ (y.cls ≠ "java/lang/invoke/MethodHandle" ∧ y.cls ≠ "java/lang/invoke/VarHandle") ∧
  (∀ sig, parseMethodDescriptor y.desc = some sig → n = sig.parameters.length) ∧ (Cond.methodLink own index y).before args s = true ∧ (Cond.instanceMethod y).before args s = true ∧ (Cond.selects C y y).before args s = true
theorem vx_cwVW {own C : String} {index maxL mc ms : Nat} {y : MethodName} {bytes : ByteArray} {ret : Option FieldType} {hh : List (Nat × Nat × Nat × Nat)} {Ts ws ws' : List Cond} {rm : Room} (n : Nat) (ht : ∀ w ∈ Ts, w.before args s = true) (hT : GoodIn Ts (wsV own index C y ws)) (hw : ws = Cond.codeWith y bytes maxL ret hh :: ws') (hrc : rm.cells = mc) (hrs : rm.slots = ms)
    (hd : y.cls = C ∧ y.cls ≠ "java/lang/invoke/MethodHandle" ∧ y.cls ≠ "java/lang/invoke/VarHandle" ∧ (parseMethodDescriptor y.desc).map (fun d => d.parameters.length) = some n) (hR : rm.frames + 1 ≤ R.frames ∧ 8 + (maxL + 11) + rm.locals ≤ R.locals) :
    vx_CVW R s args own C index y bytes maxL ret hh ws rm mc ms n := by
  obtain ⟨hC, hd⟩ := hd
  subst hC
  have ok : ∀ w ∈ wsV own index y.cls y ws, w.before args s = true := fun w h => ht w (hT w h).1
  have hG : GoodIn Ts ws := fun w h => hT w (by unfold wsV; exact List.mem_append_right _ h)
  have hc : Cond.codeWith y bytes maxL ret hh ∈ ws := by rw [hw]; exact List.mem_cons_self
  refine ⟨⟨hrc, hrs, hR.1, hR.2, pay_in ht hG, hc⟩, ht _ (hG _ hc).1, ok _ (by simp [wsV]), ⟨hd.1, hd.2.1⟩, fun sig h => ?_, ok _ (by simp [wsV]), ok _ (by simp [wsV]), ok _ (by simp [wsV])⟩
  have h2 := hd.2.2
  rw [h] at h2
  exact (Option.some.inj h2).symm
theorem vx_runVW {y : MethodName} {bytes cc : ByteArray} {maxL nL mc ms n index : Nat} {ret : Option FieldType} {hh : List (Nat × Nat × Nat × Nat)} {ws : List Cond} {rm : Room} {Pc : Array Value → State → Prop} {Qc : Array Value → State → Outcome → State → Prop} {free : Addr → Prop} {Ts : List Cond} {own C : String} {b : Addr} {As rest : List Value} {g : JFrame}
    (S : CallFix p m c cc nL s args Ts own) (hM : Met l y ws rm Pc Qc mc ms free) (cw : vx_CVW R s args own C index y bytes maxL ret hh ws rm mc ms n) (hp : PreV s H C b Pc As)
    (hg : g.method = m) (hn : As.length = n) (hsize : g.locals.size = nL) (hstack : g.stack = As.reverse ++ .ref b :: rest) (hW : 2 * g.monitorRoom + (rest.map fun v => v.category).sum ≤ 8) (hdg : decode cc g.pc = .ok (.invokevirtual index, 3)) (hf : cells + mc ≤ R.cells ∧ slots + ms ≤ R.slots) :
    va_Run p l e R s m args below meth c H locs cells slots mc ms g rest (Qc (Value.ref b :: As).toArray) free := by
  obtain ⟨⟨hrc, hrs, hfr, hlo, hws, hcw⟩, hcode, hini, hy, hlen, hl, hin, hse⟩ := cw
  have hK : Back l R p e below s args y 3 8 (PreOf R mc ms Pc) (PostOf Qc mc ms free) := va_backW (hh := hh) (bytes := bytes) (maxL := maxL) (ret := ret) hM hp.1 hrc hrs hfr hlo hws hcw (fun a' U hW => word_at hW (Or.inl (by first | rfl | simp [Cond.onTables, Cond.keeps, Cond.steady])) hini)
  obtain ⟨hx, hb, hml, ho, -⟩ := S
  obtain ⟨-, ⟨cellB, hcB, hoB, hclB⟩, hPc⟩ := hp
  intro T hT X
  obtain ⟨v, vm₁, ⟨U', l2, c2, s2⟩, hW₁, X', ⟨g', mk, t, L, e1, e2, hq, h1, hL, h2, h3⟩, st⟩ := vx_callVW X hx (C := C) (hh := hh) (bytes := bytes) (maxL := maxL) (ret := ret) ho hl hin hse hcode hy hK (by rw [hT]; exact hcB) hoB hclB hg (hsize.trans hml.symm) (argsL := As) (rest := rest) (fun sig h => hn.trans (hlen sig h)) hstack hW (by rw [hb]; exact hdg)
    (fun vm₁ hW₁ => ⟨hf.1, hf.2, hPc (T.setVm vm₁) hT hW₁⟩)
  dsimp only [Pt.U, Pt.locs, Pt.cells, Pt.slots] at X' e1 e2 h1 h2 h3 st
  subst h1; subst h2; subst h3
  exact ⟨v, (T.setVm vm₁).calling g' mk (Value.ref b :: As).toArray, t, U', L, hT, X', hL, e1, e2, hq, st⟩
section
variable {y : MethodName} {bytes cc : ByteArray} {maxL nL mc ms n index : Nat} {ret : Option FieldType} {ws : List Cond} {rm : Room} {Pc : Array Value → State → Prop} {Qc : Array Value → State → Outcome → State → Prop} {XC : String → State → State → Prop} {free : Addr → Prop} {Ts : List Cond} {own C : String} {b : Addr} {As rest : List Value} {g : JFrame}
theorem vx_runVX {hh : List (Nat × Nat × Nat × Nat)} (S : CallFix p m c cc nL s args Ts own) (hM : vx_Met l y ws rm Pc Qc XC mc ms free) (cw : vx_CVW R s args own C index y bytes maxL ret hh ws rm mc ms n) (hp : PreV s H C b Pc As)
    (hg : g.method = m) (hn : As.length = n) (hsize : g.locals.size = nL) (hstack : g.stack = As.reverse ++ .ref b :: rest) (hW : 2 * g.monitorRoom + (rest.map fun v => v.category).sum ≤ 8) (hdg : decode cc g.pc = .ok (.invokevirtual index, 3)) (hf : cells + mc ≤ R.cells ∧ slots + ms ≤ R.slots) :
    vx_Run p l e R s m args below meth c H locs cells slots mc ms g rest (Qc (Value.ref b :: As).toArray) XC free := by
  obtain ⟨⟨hrc, hrs, hfr, hlo, hws, hcw⟩, hcode, hini, hy, hlen, hl, hin, hse⟩ := cw
  have hK : vx_Back l R p e below s args y 3 8 (PreOf R mc ms Pc) (PostOf Qc mc ms free) (vx_Post XC mc ms free) := vx_backW (hh := hh) (bytes := bytes) (maxL := maxL) (ret := ret) hM hp.1 hrc hrs hfr hlo hws hcw (fun a' U hW => word_at hW (Or.inl (by first | rfl | simp [Cond.onTables, Cond.keeps, Cond.steady])) hini)
  obtain ⟨hx, hb, hml, ho, -⟩ := S
  obtain ⟨-, ⟨cellB, hcB, hoB, hclB⟩, hPc⟩ := hp
  intro T hT X
  rcases vx_callVX X hx (C := C) (hh := hh) (bytes := bytes) (maxL := maxL) (ret := ret) ho hl hin hse hcode hy hK (by rw [hT]; exact hcB) hoB hclB hg (hsize.trans hml.symm) (argsL := As) (rest := rest) (fun sig h => hn.trans (hlen sig h)) hstack hW (by rw [hb]; exact hdg)
    (fun vm₁ hW₁ => ⟨hf.1, hf.2, hPc (T.setVm vm₁) hT hW₁⟩) with ⟨v, vm₁, ⟨U', l2, c2, s2⟩, hW₁, X', ⟨g', mk, t, L, e1, e2, hq, h1, hL, h2, h3⟩, st⟩ | ⟨q, vm₁, ⟨U', l2, c2, s2⟩, hW₁, X', ⟨g', mk, t, L, E, ce, e1, e2, hq, hce, hcv, hcl, h1, hL, h2, h3⟩, st⟩
  · dsimp only [Pt.U, Pt.locs, Pt.cells, Pt.slots] at X' e1 e2 h1 h2 h3 st
    subst h1; subst h2; subst h3
    exact Or.inl ⟨v, (T.setVm vm₁).calling g' mk (Value.ref b :: As).toArray, t, U', L, hT, X', hL, e1, e2, hq, st⟩
  · dsimp only [Pt.U, Pt.locs, Pt.cells, Pt.slots] at X' e1 e2 h1 h2 h3 st hcl
    subst h1; subst h2; subst h3
    exact Or.inr ⟨q, (T.setVm vm₁).calling g' mk (Value.ref b :: As).toArray, t, U', L, E, ce, hT, X', hL, e1, e2, hq, hce, hcv, vx_cls hW₁ hcl, st⟩
theorem vx_runSX {hh : List (Nat × Nat × Nat × Nat)} (S : CallFix p m c cc nL s args Ts own) (hM : vx_Met l y ws rm Pc Qc XC mc ms free) (cw : vx_CSW R s args own index y bytes maxL ret hh ws rm mc ms n) (hp : PreS s H Pc As)
    (hg : g.method = m) (hn : As.length = n) (hsize : g.locals.size = nL) (hstack : g.stack = As.reverse ++ rest) (hW : 2 * g.monitorRoom + (rest.map fun v => v.category).sum ≤ 8) (hdg : decode cc g.pc = .ok (.invokestatic index, 3)) (hf : cells + mc ≤ R.cells ∧ slots + ms ≤ R.slots) :
    vx_Run p l e R s m args below meth c H locs cells slots mc ms g rest (Qc As.toArray) XC free := by
  obtain ⟨⟨hrc, hrs, hfr, hlo, hws, hcw⟩, hcode, hini, hy, hlen, hl, hstt⟩ := cw
  have hK : vx_Back l R p e below s args y 3 8 (PreOf R mc ms Pc) (PostOf Qc mc ms free) (vx_Post XC mc ms free) := vx_backW (hh := hh) (bytes := bytes) (maxL := maxL) (ret := ret) hM hp.1 hrc hrs hfr hlo hws hcw (fun a' U hW => word_at hW (Or.inl (by first | rfl | simp [Cond.onTables, Cond.keeps, Cond.steady])) hini)
  obtain ⟨hx, hb, hml, ho, -⟩ := S
  intro T hT X
  rcases vx_callSX X hx (hh := hh) (bytes := bytes) (maxL := maxL) (ret := ret) ho hl hstt hini hcode hy hK hg (hsize.trans hml.symm) (argsL := As) (rest := rest) (fun sig h => hn.trans (hlen sig h)) hstack hW (by rw [hb]; exact hdg)
    (fun vm₁ hW₁ => ⟨hf.1, hf.2, hp.2 (T.setVm vm₁) hT hW₁⟩) with ⟨v, vm₁, ⟨U', l2, c2, s2⟩, hW₁, X', ⟨g', mk, t, L, e1, e2, hq, h1, hL, h2, h3⟩, st⟩ | ⟨q, vm₁, ⟨U', l2, c2, s2⟩, hW₁, X', ⟨g', mk, t, L, E, ce, e1, e2, hq, hce, hcv, hcl, h1, hL, h2, h3⟩, st⟩
  · dsimp only [Pt.U, Pt.locs, Pt.cells, Pt.slots] at X' e1 e2 h1 h2 h3 st
    subst h1; subst h2; subst h3
    exact Or.inl ⟨v, (T.setVm vm₁).calling g' mk As.toArray, t, U', L, hT, X', hL, e1, e2, hq, st⟩
  · dsimp only [Pt.U, Pt.locs, Pt.cells, Pt.slots] at X' e1 e2 h1 h2 h3 st hcl
    subst h1; subst h2; subst h3
    exact Or.inr ⟨q, (T.setVm vm₁).calling g' mk As.toArray, t, U', L, E, ce, hT, X', hL, e1, e2, hq, hce, hcv, vx_cls hW₁ hcl, st⟩
end
end VXH
theorem vx_ofWH {l : Launch} {y : MethodName} {ws ws' : List Cond} {rm : Room} {Pc : Array Value → State → Prop} {Qc : Array Value → State → Outcome → State → Prop} {XC : String → State → State → Prop} {mc ms : Nat} {free : Addr → Prop} {cc : ByteArray} {maxL : Nat} {ret : Option FieldType} {hh : List (Nat × Nat × Nat × Nat)}
    (hy : plainName y.cls = true) (hw : ws = Cond.codeWith y cc maxL ret hh :: ws')
    (body : ∀ p e s m args below meth c s₁, BodyLoose p l y (headSpec ws rm) cc maxL ret e s m args below meth c s₁ → c.maxLocals = maxL → Pc args s →
      W p l e (headSpec ws rm).room s m args below meth c s.heap [] 0 0 (vx_MQ below Qc XC args s mc ms free) (entryFrame m args maxL)) : vx_Met l y ws rm Pc Qc XC mc ms free := by
  refine MetFree.of_bodyS (code := cc) (maxLocals := maxL) (ret := ret) hy ?_ ?_
  · intro args s m h hn
    obtain ⟨m9, meth, c, hn9, h1, h2, h3, h4, -, h5, h6, -⟩ := Cond.codeWith_spec (atoms_spec (ws := ws) h _ (by rw [hw]; exact List.mem_cons_self))
    cases hn.symm.trans hn9
    exact ⟨meth, c, h1, h2, h3, h4, h5, h6⟩
  · intro p e s m args below meth c s₁ B hml hP _
    have hh0 : s₁.heap = s.heap := by rw [B.state]; rfl
    obtain ⟨t, a1, o, b1, b2, b3⟩ := body p e s m args below meth c s₁ B hml hP s₁ hh0 (Stand.of_body B)
    exact ⟨t, o, a1, b1, b2, b3⟩
/-! ===== END ===== -/
end
section
def RX0 : String := "Segmentry$Entry"
def TX0 : u_T := fun k => match k with
  | 0 => ("Segmentry$Entry", "isLoop", "Z", false)
  | 1 => ("Segmentry$Entry", "first", "I", false)
  | 2 => ("Segmentry$Entry", "end", "I", false)
  | 3 => ("Segmentry$Entry", "least", "I", false)
  | _ => ("Segmentry$Entry", "most", "I", false)
def tyX0 : Nat → FieldType := fun k => match k with
  | 0 => .boolean
  | 1 => .int
  | 2 => .int
  | 3 => .int
  | _ => .int
abbrev wsX00 : List Cond := u_ws RX0 TX0 5
theorem nmX0 : ∀ a, a < 5 → ∀ b, b < 5 → a ≠ b → (TX0 a).2.1 ≠ (TX0 b).2.1 := by decide +kernel
theorem tyX0_ok : ∀ k, k < 5 → parseFieldDescriptor (TX0 k).2.2.1 = some (tyX0 k) := by decide +kernel
abbrev cX0_init : ByteArray := prog_2_method_1_code
def yX0_init : MethodName := ⟨RX0, "<init>", "()V"⟩
abbrev cX0_begin : ByteArray := prog_2_method_2_code
def yX0_begin : MethodName := ⟨RX0, "begin", "(ZIII)V"⟩
abbrev cX0_extend : ByteArray := prog_2_method_3_code
def yX0_extend : MethodName := ⟨RX0, "extend", "()V"⟩
def RX1 : String := "Segmentry$Faults"
def TX1 : u_T := fun k => match k with
  | 0 => ("Segmentry$Faults", "kinds", "[I", true)
  | 1 => ("Segmentry$Faults", "places", "[I", true)
  | _ => ("Segmentry$Faults", "size", "I", false)
def tyX1 : Nat → FieldType := fun k => match k with
  | 0 => .array .int
  | 1 => .array .int
  | _ => .int
abbrev wsX10 : List Cond := u_ws RX1 TX1 3
theorem nmX1 : ∀ a, a < 3 → ∀ b, b < 3 → a ≠ b → (TX1 a).2.1 ≠ (TX1 b).2.1 := by decide +kernel
theorem tyX1_ok : ∀ k, k < 3 → parseFieldDescriptor (TX1 k).2.2.1 = some (tyX1 k) := by decide +kernel
abbrev cX1_init : ByteArray := prog_3_method_1_code
def yX1_init : MethodName := ⟨RX1, "<init>", "()V"⟩
abbrev cX1_wipe : ByteArray := prog_3_method_2_code
def yX1_wipe : MethodName := ⟨RX1, "wipe", "()V"⟩
abbrev cX1_count : ByteArray := prog_3_method_3_code
def yX1_count : MethodName := ⟨RX1, "count", "()I"⟩
abbrev cX1_add : ByteArray := prog_3_method_4_code
def yX1_add : MethodName := ⟨RX1, "add", "(II)V"⟩
abbrev cX1_kindOf : ByteArray := prog_3_method_5_code
def yX1_kindOf : MethodName := ⟨RX1, "kindOf", "(I)I"⟩
abbrev cX1_placeOf : ByteArray := prog_3_method_6_code
def yX1_placeOf : MethodName := ⟨RX1, "placeOf", "(I)I"⟩
def RX2 : String := "Segmentry$Item"
def TX2 : u_T := fun k => match k with
  | 0 => ("Segmentry$Item", "mark", "C", false)
  | 1 => ("Segmentry$Item", "least", "I", false)
  | _ => ("Segmentry$Item", "most", "I", false)
def tyX2 : Nat → FieldType := fun k => match k with
  | 0 => .char
  | 1 => .int
  | _ => .int
abbrev wsX20 : List Cond := u_ws RX2 TX2 3
theorem nmX2 : ∀ a, a < 3 → ∀ b, b < 3 → a ≠ b → (TX2 a).2.1 ≠ (TX2 b).2.1 := by decide +kernel
theorem tyX2_ok : ∀ k, k < 3 → parseFieldDescriptor (TX2 k).2.2.1 = some (tyX2 k) := by decide +kernel
abbrev cX2_init : ByteArray := prog_4_method_1_code
def yX2_init : MethodName := ⟨RX2, "<init>", "()V"⟩
abbrev cX2_set : ByteArray := prog_4_method_2_code
def yX2_set : MethodName := ⟨RX2, "set", "(CII)V"⟩
def RX3 : String := "Segmentry$Matcher"
def TX3 : u_T := fun k => match k with
  | 0 => ("Segmentry$Matcher", "schema", "LSegmentry$Schema;", true)
  | 1 => ("Segmentry$Matcher", "marked", "[I", true)
  | 2 => ("Segmentry$Matcher", "rests", "[I", true)
  | 3 => ("Segmentry$Matcher", "afters", "[I", true)
  | 4 => ("Segmentry$Matcher", "begun", "[I", true)
  | _ => ("Segmentry$Matcher", "reached", "I", false)
def tyX3 : Nat → FieldType := fun k => match k with
  | 0 => .object "Segmentry$Schema"
  | 1 => .array .int
  | 2 => .array .int
  | 3 => .array .int
  | 4 => .array .int
  | _ => .int
abbrev wsX30 : List Cond := u_ws RX3 TX3 6
theorem nmX3 : ∀ a, a < 6 → ∀ b, b < 6 → a ≠ b → (TX3 a).2.1 ≠ (TX3 b).2.1 := by decide +kernel
theorem tyX3_ok : ∀ k, k < 6 → parseFieldDescriptor (TX3 k).2.2.1 = some (tyX3 k) := by decide +kernel
abbrev cX3_init : ByteArray := prog_5_method_1_code
def yX3_init : MethodName := ⟨RX3, "<init>", "(LSegmentry$Schema;)V"⟩
abbrev cX3_canDivide : ByteArray := prog_5_method_2_code
def yX3_canDivide : MethodName := ⟨RX3, "canDivide", "(LSegmentry$Message;)Z"⟩
abbrev cX3_divide : ByteArray := prog_5_method_3_code
def yX3_divide : MethodName := ⟨RX3, "divide", "(LSegmentry$Message;)V"⟩
abbrev cX3_viableCount : ByteArray := prog_5_method_4_code
def yX3_viableCount : MethodName := ⟨RX3, "viableCount", "(LSegmentry$Message;)I"⟩
abbrev cX3_findMarks : ByteArray := prog_5_method_5_code
def yX3_findMarks : MethodName := ⟨RX3, "findMarks", "(LSegmentry$Message;)V"⟩
abbrev cX3_contains : ByteArray := prog_5_method_6_code
def yX3_contains : MethodName := ⟨RX3, "contains", "(II)Z"⟩
abbrev cX3_findAfters : ByteArray := prog_5_method_7_code
def yX3_findAfters : MethodName := ⟨RX3, "findAfters", "(LSegmentry$Entry;I)V"⟩
abbrev cX3_placesBeforePass : ByteArray := prog_5_method_8_code
def yX3_placesBeforePass : MethodName := ⟨RX3, "placesBeforePass", "(LSegmentry$Entry;I)I"⟩
abbrev cX3_placesBeforeItem : ByteArray := prog_5_method_9_code
def yX3_placesBeforeItem : MethodName := ⟨RX3, "placesBeforeItem", "(IIII)I"⟩
abbrev cX3_dividePass : ByteArray := prog_5_method_10_code
def yX3_dividePass : MethodName := ⟨RX3, "dividePass", "(LSegmentry$Message;LSegmentry$Entry;II)I"⟩
abbrev cX3_greatestTimes : ByteArray := prog_5_method_11_code
def yX3_greatestTimes : MethodName := ⟨RX3, "greatestTimes", "(II)I"⟩
abbrev cX3_placesBehindEntry : ByteArray := prog_5_method_12_code
def yX3_placesBehindEntry : MethodName := ⟨RX3, "placesBehindEntry", "(LSegmentry$Entry;I)I"⟩
abbrev cX3_placesBehindPass : ByteArray := prog_5_method_13_code
def yX3_placesBehindPass : MethodName := ⟨RX3, "placesBehindPass", "(LSegmentry$Entry;I)I"⟩
abbrev cX3_placesBehindItem : ByteArray := prog_5_method_14_code
def yX3_placesBehindItem : MethodName := ⟨RX3, "placesBehindItem", "(IIII)I"⟩
def RX4 : String := "Segmentry$Message"
def TX4 : u_T := fun k => match k with
  | 0 => ("Segmentry$Message", "row", "[LSegmentry$Segment;", true)
  | 1 => ("Segmentry$Message", "none", "LSegmentry$Segment;", true)
  | _ => ("Segmentry$Message", "size", "I", false)
def tyX4 : Nat → FieldType := fun k => match k with
  | 0 => .array (.object "Segmentry$Segment")
  | 1 => .object "Segmentry$Segment"
  | _ => .int
abbrev wsX40 : List Cond := u_ws RX4 TX4 3
theorem nmX4 : ∀ a, a < 3 → ∀ b, b < 3 → a ≠ b → (TX4 a).2.1 ≠ (TX4 b).2.1 := by decide +kernel
theorem tyX4_ok : ∀ k, k < 3 → parseFieldDescriptor (TX4 k).2.2.1 = some (tyX4 k) := by decide +kernel
abbrev cX4_init : ByteArray := prog_6_method_1_code
def yX4_init : MethodName := ⟨RX4, "<init>", "()V"⟩
abbrev cX4_wipe : ByteArray := prog_6_method_2_code
def yX4_wipe : MethodName := ⟨RX4, "wipe", "()V"⟩
abbrev cX4_count : ByteArray := prog_6_method_3_code
def yX4_count : MethodName := ⟨RX4, "count", "()I"⟩
abbrev cX4_at : ByteArray := prog_6_method_4_code
def yX4_at : MethodName := ⟨RX4, "at", "(I)LSegmentry$Segment;"⟩
abbrev cX4_append : ByteArray := prog_6_method_5_code
def yX4_append : MethodName := ⟨RX4, "append", "()LSegmentry$Segment;"⟩
abbrev cX4_last : ByteArray := prog_6_method_6_code
def yX4_last : MethodName := ⟨RX4, "last", "()LSegmentry$Segment;"⟩
abbrev cX4_bodyCount : ByteArray := prog_6_method_7_code
def yX4_bodyCount : MethodName := ⟨RX4, "bodyCount", "()I"⟩
abbrev cX4_bodyAt : ByteArray := prog_6_method_8_code
def yX4_bodyAt : MethodName := ⟨RX4, "bodyAt", "(I)LSegmentry$Segment;"⟩
abbrev cX4_headerControl : ByteArray := prog_6_method_9_code
def yX4_headerControl : MethodName := ⟨RX4, "headerControl", "()I"⟩
def RX5 : String := "Segmentry$Reader"
def TX5 : u_T := fun k => match k with
  | 0 => ("Segmentry$Reader", "faults", "LSegmentry$Faults;", true)
  | _ => ("Segmentry$Reader", "matcher", "LSegmentry$Matcher;", true)
def tyX5 : Nat → FieldType := fun k => match k with
  | 0 => .object "Segmentry$Faults"
  | _ => .object "Segmentry$Matcher"
abbrev wsX50 : List Cond := u_ws RX5 TX5 2
theorem nmX5 : ∀ a, a < 2 → ∀ b, b < 2 → a ≠ b → (TX5 a).2.1 ≠ (TX5 b).2.1 := by decide +kernel
theorem tyX5_ok : ∀ k, k < 2 → parseFieldDescriptor (TX5 k).2.2.1 = some (tyX5 k) := by decide +kernel
abbrev cX5_init : ByteArray := prog_7_method_1_code
def yX5_init : MethodName := ⟨RX5, "<init>", "(LSegmentry$Schema;LSegmentry$Faults;)V"⟩
abbrev cX5_accepts : ByteArray := prog_7_method_2_code
def yX5_accepts : MethodName := ⟨RX5, "accepts", "(LSegmentry$Sheet;LSegmentry$Message;ZI)Z"⟩
abbrev cX5_split : ByteArray := prog_7_method_3_code
def yX5_split : MethodName := ⟨RX5, "split", "(LSegmentry$Sheet;LSegmentry$Message;)V"⟩
abbrev cX5_takeSegment : ByteArray := prog_7_method_4_code
def yX5_takeSegment : MethodName := ⟨RX5, "takeSegment", "(LSegmentry$Sheet;IILSegmentry$Segment;)V"⟩
abbrev cX5_takeElement : ByteArray := prog_7_method_5_code
def yX5_takeElement : MethodName := ⟨RX5, "takeElement", "(LSegmentry$Sheet;IILSegmentry$Segment;)V"⟩
abbrev cX5_tagBetween : ByteArray := prog_7_method_6_code
def yX5_tagBetween : MethodName := ⟨RX5, "tagBetween", "(LSegmentry$Sheet;II)C"⟩
abbrev cX5_segmentEnd : ByteArray := prog_7_method_7_code
def yX5_segmentEnd : MethodName := ⟨RX5, "segmentEnd", "(LSegmentry$Sheet;I)I"⟩
abbrev cX5_partEnd : ByteArray := prog_7_method_8_code
def yX5_partEnd : MethodName := ⟨RX5, "partEnd", "(LSegmentry$Sheet;II)I"⟩
abbrev cX5_checkEnvelope : ByteArray := prog_7_method_9_code
def yX5_checkEnvelope : MethodName := ⟨RX5, "checkEnvelope", "(LSegmentry$Message;)V"⟩
abbrev cX5_checkNumbers : ByteArray := prog_7_method_10_code
def yX5_checkNumbers : MethodName := ⟨RX5, "checkNumbers", "(LSegmentry$Message;ZI)V"⟩
abbrev cX5_checkBody : ByteArray := prog_7_method_11_code
def yX5_checkBody : MethodName := ⟨RX5, "checkBody", "(LSegmentry$Message;)V"⟩
def RX6 : String := "Segmentry$Rule"
def TX6 : u_T := fun k => match k with
  | 0 => ("Segmentry$Rule", "fields", "[I", true)
  | 1 => ("Segmentry$Rule", "itemNumber", "I", false)
  | 2 => ("Segmentry$Rule", "mark", "C", false)
  | 3 => ("Segmentry$Rule", "fieldCount", "I", false)
  | 4 => ("Segmentry$Rule", "testedElement", "I", false)
  | _ => ("Segmentry$Rule", "testedLetter", "C", false)
def tyX6 : Nat → FieldType := fun k => match k with
  | 0 => .array .int
  | 1 => .int
  | 2 => .char
  | 3 => .int
  | 4 => .int
  | _ => .char
abbrev wsX60 : List Cond := u_ws RX6 TX6 6
theorem nmX6 : ∀ a, a < 6 → ∀ b, b < 6 → a ≠ b → (TX6 a).2.1 ≠ (TX6 b).2.1 := by decide +kernel
theorem tyX6_ok : ∀ k, k < 6 → parseFieldDescriptor (TX6 k).2.2.1 = some (tyX6 k) := by decide +kernel
abbrev cX6_init : ByteArray := prog_8_method_1_code
def yX6_init : MethodName := ⟨RX6, "<init>", "()V"⟩
abbrev cX6_begin : ByteArray := prog_8_method_2_code
def yX6_begin : MethodName := ⟨RX6, "begin", "(IC)V"⟩
abbrev cX6_fieldCount : ByteArray := prog_8_method_3_code
def yX6_fieldCount : MethodName := ⟨RX6, "fieldCount", "()I"⟩
abbrev cX6_appendField : ByteArray := prog_8_method_4_code
def yX6_appendField : MethodName := ⟨RX6, "appendField", "(I)I"⟩
abbrev cX6_restrict : ByteArray := prog_8_method_5_code
def yX6_restrict : MethodName := ⟨RX6, "restrict", "(IC)V"⟩
abbrev cX6_appliesTo : ByteArray := prog_8_method_6_code
def yX6_appliesTo : MethodName := ⟨RX6, "appliesTo", "(LSegmentry$Segment;)Z"⟩
abbrev cX6_holdsFor : ByteArray := prog_8_method_7_code
def yX6_holdsFor : MethodName := ⟨RX6, "holdsFor", "(LSegmentry$Segment;)Z"⟩
abbrev cX6_translate : ByteArray := prog_8_method_8_code
def yX6_translate : MethodName := ⟨RX6, "translate", "(LSegmentry$Segment;LSegmentry$Sheet;)V"⟩
def RX7 : String := "Segmentry$RuleBook"
def TX7 : u_T := fun k => match k with
  | 0 => ("Segmentry$RuleBook", "row", "[LSegmentry$Rule;", true)
  | 1 => ("Segmentry$RuleBook", "none", "LSegmentry$Rule;", true)
  | _ => ("Segmentry$RuleBook", "size", "I", false)
def tyX7 : Nat → FieldType := fun k => match k with
  | 0 => .array (.object "Segmentry$Rule")
  | 1 => .object "Segmentry$Rule"
  | _ => .int
abbrev wsX70 : List Cond := u_ws RX7 TX7 3
theorem nmX7 : ∀ a, a < 3 → ∀ b, b < 3 → a ≠ b → (TX7 a).2.1 ≠ (TX7 b).2.1 := by decide +kernel
theorem tyX7_ok : ∀ k, k < 3 → parseFieldDescriptor (TX7 k).2.2.1 = some (tyX7 k) := by decide +kernel
abbrev cX7_init : ByteArray := prog_9_method_1_code
def yX7_init : MethodName := ⟨RX7, "<init>", "()V"⟩
abbrev cX7_wipe : ByteArray := prog_9_method_2_code
def yX7_wipe : MethodName := ⟨RX7, "wipe", "()V"⟩
abbrev cX7_count : ByteArray := prog_9_method_3_code
def yX7_count : MethodName := ⟨RX7, "count", "()I"⟩
abbrev cX7_at : ByteArray := prog_9_method_4_code
def yX7_at : MethodName := ⟨RX7, "at", "(I)LSegmentry$Rule;"⟩
abbrev cX7_append : ByteArray := prog_9_method_5_code
def yX7_append : MethodName := ⟨RX7, "append", "(IC)I"⟩
abbrev cX7_translate : ByteArray := prog_9_method_6_code
def yX7_translate : MethodName := ⟨RX7, "translate", "(LSegmentry$Message;ILSegmentry$Sheet;)Z"⟩
abbrev cX7_putHeader : ByteArray := prog_9_method_7_code
def yX7_putHeader : MethodName := ⟨RX7, "putHeader", "(ILSegmentry$Sheet;)V"⟩
abbrev cX7_putBody : ByteArray := prog_9_method_8_code
def yX7_putBody : MethodName := ⟨RX7, "putBody", "(LSegmentry$Message;LSegmentry$Sheet;)I"⟩
abbrev cX7_putTrailer : ByteArray := prog_9_method_9_code
def yX7_putTrailer : MethodName := ⟨RX7, "putTrailer", "(IILSegmentry$Sheet;)V"⟩
def RX8 : String := "Segmentry$Schema"
def TX8 : u_T := fun k => match k with
  | 0 => ("Segmentry$Schema", "itemRow", "[LSegmentry$Item;", true)
  | 1 => ("Segmentry$Schema", "entryRow", "[LSegmentry$Entry;", true)
  | 2 => ("Segmentry$Schema", "noItem", "LSegmentry$Item;", true)
  | 3 => ("Segmentry$Schema", "noEntry", "LSegmentry$Entry;", true)
  | 4 => ("Segmentry$Schema", "itemCount", "I", false)
  | 5 => ("Segmentry$Schema", "entryCount", "I", false)
  | _ => ("Segmentry$Schema", "loopOpen", "Z", false)
def tyX8 : Nat → FieldType := fun k => match k with
  | 0 => .array (.object "Segmentry$Item")
  | 1 => .array (.object "Segmentry$Entry")
  | 2 => .object "Segmentry$Item"
  | 3 => .object "Segmentry$Entry"
  | 4 => .int
  | 5 => .int
  | _ => .boolean
abbrev wsX80 : List Cond := u_ws RX8 TX8 7
theorem nmX8 : ∀ a, a < 7 → ∀ b, b < 7 → a ≠ b → (TX8 a).2.1 ≠ (TX8 b).2.1 := by decide +kernel
theorem tyX8_ok : ∀ k, k < 7 → parseFieldDescriptor (TX8 k).2.2.1 = some (tyX8 k) := by decide +kernel
abbrev cX8_init : ByteArray := prog_10_method_1_code
def yX8_init : MethodName := ⟨RX8, "<init>", "()V"⟩
abbrev cX8_wipe : ByteArray := prog_10_method_2_code
def yX8_wipe : MethodName := ⟨RX8, "wipe", "()V"⟩
abbrev cX8_itemCount : ByteArray := prog_10_method_3_code
def yX8_itemCount : MethodName := ⟨RX8, "itemCount", "()I"⟩
abbrev cX8_entryCount : ByteArray := prog_10_method_4_code
def yX8_entryCount : MethodName := ⟨RX8, "entryCount", "()I"⟩
abbrev cX8_itemAt : ByteArray := prog_10_method_5_code
def yX8_itemAt : MethodName := ⟨RX8, "itemAt", "(I)LSegmentry$Item;"⟩
abbrev cX8_entryAt : ByteArray := prog_10_method_6_code
def yX8_entryAt : MethodName := ⟨RX8, "entryAt", "(I)LSegmentry$Entry;"⟩
abbrev cX8_isLoopOpen : ByteArray := prog_10_method_7_code
def yX8_isLoopOpen : MethodName := ⟨RX8, "isLoopOpen", "()Z"⟩
abbrev cX8_openLoopSize : ByteArray := prog_10_method_8_code
def yX8_openLoopSize : MethodName := ⟨RX8, "openLoopSize", "()I"⟩
abbrev cX8_appendItem : ByteArray := prog_10_method_9_code
def yX8_appendItem : MethodName := ⟨RX8, "appendItem", "(CII)I"⟩
abbrev cX8_beginLoop : ByteArray := prog_10_method_10_code
def yX8_beginLoop : MethodName := ⟨RX8, "beginLoop", "(II)V"⟩
abbrev cX8_endLoop : ByteArray := prog_10_method_11_code
def yX8_endLoop : MethodName := ⟨RX8, "endLoop", "()I"⟩
abbrev cX8_appendEntry : ByteArray := prog_10_method_12_code
def yX8_appendEntry : MethodName := ⟨RX8, "appendEntry", "(ZII)V"⟩
def RX9 : String := "Segmentry$Segment"
def TX9 : u_T := fun k => match k with
  | 0 => ("Segmentry$Segment", "letters", "[C", true)
  | 1 => ("Segmentry$Segment", "counts", "[I", true)
  | 2 => ("Segmentry$Segment", "start", "I", false)
  | 3 => ("Segmentry$Segment", "mark", "C", false)
  | 4 => ("Segmentry$Segment", "elementCount", "I", false)
  | 5 => ("Segmentry$Segment", "itemNumber", "I", false)
  | _ => ("Segmentry$Segment", "passNumber", "I", false)
def tyX9 : Nat → FieldType := fun k => match k with
  | 0 => .array .char
  | 1 => .array .int
  | 2 => .int
  | 3 => .char
  | 4 => .int
  | 5 => .int
  | _ => .int
abbrev wsX90 : List Cond := u_ws RX9 TX9 7
theorem nmX9 : ∀ a, a < 7 → ∀ b, b < 7 → a ≠ b → (TX9 a).2.1 ≠ (TX9 b).2.1 := by decide +kernel
theorem tyX9_ok : ∀ k, k < 7 → parseFieldDescriptor (TX9 k).2.2.1 = some (tyX9 k) := by decide +kernel
abbrev cX9_init : ByteArray := prog_11_method_1_code
def yX9_init : MethodName := ⟨RX9, "<init>", "()V"⟩
abbrev cX9_begin : ByteArray := prog_11_method_2_code
def yX9_begin : MethodName := ⟨RX9, "begin", "(IC)V"⟩
abbrev cX9_beginElement : ByteArray := prog_11_method_3_code
def yX9_beginElement : MethodName := ⟨RX9, "beginElement", "()V"⟩
abbrev cX9_append : ByteArray := prog_11_method_4_code
def yX9_append : MethodName := ⟨RX9, "append", "(C)V"⟩
abbrev cX9_assign : ByteArray := prog_11_method_5_code
def yX9_assign : MethodName := ⟨RX9, "assign", "(II)V"⟩
abbrev cX9_start : ByteArray := prog_11_method_6_code
def yX9_start : MethodName := ⟨RX9, "start", "()I"⟩
abbrev cX9_mark : ByteArray := prog_11_method_7_code
def yX9_mark : MethodName := ⟨RX9, "mark", "()C"⟩
abbrev cX9_elementCount : ByteArray := prog_11_method_8_code
def yX9_elementCount : MethodName := ⟨RX9, "elementCount", "()I"⟩
abbrev cX9_itemNumber : ByteArray := prog_11_method_9_code
def yX9_itemNumber : MethodName := ⟨RX9, "itemNumber", "()I"⟩
abbrev cX9_passNumber : ByteArray := prog_11_method_10_code
def yX9_passNumber : MethodName := ⟨RX9, "passNumber", "()I"⟩
abbrev cX9_countIn : ByteArray := prog_11_method_11_code
def yX9_countIn : MethodName := ⟨RX9, "countIn", "(I)I"⟩
abbrev cX9_letterIn : ByteArray := prog_11_method_12_code
def yX9_letterIn : MethodName := ⟨RX9, "letterIn", "(II)C"⟩
abbrev cX9_numberIn : ByteArray := prog_11_method_13_code
def yX9_numberIn : MethodName := ⟨RX9, "numberIn", "(I)I"⟩
abbrev cX9_isEnvelope : ByteArray := prog_11_method_14_code
def yX9_isEnvelope : MethodName := ⟨RX9, "isEnvelope", "(CI)Z"⟩
def RX10 : String := "Segmentry$Sheet"
def TX10 : u_T := fun k => match k with
  | 0 => ("Segmentry$Sheet", "row", "[C", true)
  | 1 => ("Segmentry$Sheet", "size", "I", false)
  | _ => ("Segmentry$Sheet", "overfull", "Z", false)
def tyX10 : Nat → FieldType := fun k => match k with
  | 0 => .array .char
  | 1 => .int
  | _ => .boolean
abbrev wsX100 : List Cond := u_ws RX10 TX10 3
theorem nmX10 : ∀ a, a < 3 → ∀ b, b < 3 → a ≠ b → (TX10 a).2.1 ≠ (TX10 b).2.1 := by decide +kernel
theorem tyX10_ok : ∀ k, k < 3 → parseFieldDescriptor (TX10 k).2.2.1 = some (tyX10 k) := by decide +kernel
abbrev cX10_init : ByteArray := prog_12_method_1_code
def yX10_init : MethodName := ⟨RX10, "<init>", "()V"⟩
abbrev cX10_wipe : ByteArray := prog_12_method_2_code
def yX10_wipe : MethodName := ⟨RX10, "wipe", "()V"⟩
abbrev cX10_count : ByteArray := prog_12_method_3_code
def yX10_count : MethodName := ⟨RX10, "count", "()I"⟩
abbrev cX10_isOverfull : ByteArray := prog_12_method_4_code
def yX10_isOverfull : MethodName := ⟨RX10, "isOverfull", "()Z"⟩
abbrev cX10_at : ByteArray := prog_12_method_5_code
def yX10_at : MethodName := ⟨RX10, "at", "(I)C"⟩
abbrev cX10_put : ByteArray := prog_12_method_6_code
def yX10_put : MethodName := ⟨RX10, "put", "(C)V"⟩
abbrev cX10_putAll : ByteArray := prog_12_method_7_code
def yX10_putAll : MethodName := ⟨RX10, "putAll", "(LSegmentry$Sheet;)V"⟩
abbrev cX10_putReleased : ByteArray := prog_12_method_8_code
def yX10_putReleased : MethodName := ⟨RX10, "putReleased", "(C)V"⟩
abbrev cX10_putNumber : ByteArray := prog_12_method_9_code
def yX10_putNumber : MethodName := ⟨RX10, "putNumber", "(I)V"⟩
def RX11 : String := "Segmentry"
def TX11 : u_T := fun k => match k with
  | 0 => ("Segmentry", "schema", "LSegmentry$Schema;", true)
  | 1 => ("Segmentry", "text", "LSegmentry$Sheet;", true)
  | 2 => ("Segmentry", "faults", "LSegmentry$Faults;", true)
  | 3 => ("Segmentry", "reader", "LSegmentry$Reader;", true)
  | 4 => ("Segmentry", "rules", "LSegmentry$RuleBook;", true)
  | 5 => ("Segmentry", "accepted", "LSegmentry$Message;", false)
  | 6 => ("Segmentry", "draft", "LSegmentry$Message;", false)
  | 7 => ("Segmentry", "hasMessage", "Z", false)
  | 8 => ("Segmentry", "wasAccepted", "Z", false)
  | 9 => ("Segmentry", "lastControl", "I", false)
  | 10 => ("Segmentry", "output", "LSegmentry$Sheet;", false)
  | 11 => ("Segmentry", "outputDraft", "LSegmentry$Sheet;", false)
  | _ => ("Segmentry", "messagesWritten", "I", false)
def tyX11 : Nat → FieldType := fun k => match k with
  | 0 => .object "Segmentry$Schema"
  | 1 => .object "Segmentry$Sheet"
  | 2 => .object "Segmentry$Faults"
  | 3 => .object "Segmentry$Reader"
  | 4 => .object "Segmentry$RuleBook"
  | 5 => .object "Segmentry$Message"
  | 6 => .object "Segmentry$Message"
  | 7 => .boolean
  | 8 => .boolean
  | 9 => .int
  | 10 => .object "Segmentry$Sheet"
  | 11 => .object "Segmentry$Sheet"
  | _ => .int
abbrev wsX110 : List Cond := u_ws RX11 TX11 13
theorem nmX11 : ∀ a, a < 13 → ∀ b, b < 13 → a ≠ b → (TX11 a).2.1 ≠ (TX11 b).2.1 := by decide +kernel
theorem tyX11_ok : ∀ k, k < 13 → parseFieldDescriptor (TX11 k).2.2.1 = some (tyX11 k) := by decide +kernel
abbrev cX11_init : ByteArray := prog_1_method_1_code
def yX11_init : MethodName := ⟨RX11, "<init>", "()V"⟩
abbrev cX11_addItem : ByteArray := prog_1_method_2_code
def yX11_addItem : MethodName := ⟨RX11, "addItem", "(CII)I"⟩
abbrev cX11_openLoop : ByteArray := prog_1_method_3_code
def yX11_openLoop : MethodName := ⟨RX11, "openLoop", "(II)V"⟩
abbrev cX11_closeLoop : ByteArray := prog_1_method_4_code
def yX11_closeLoop : MethodName := ⟨RX11, "closeLoop", "()I"⟩
abbrev cX11_clear : ByteArray := prog_1_method_5_code
def yX11_clear : MethodName := ⟨RX11, "clear", "()V"⟩
abbrev cX11_items : ByteArray := prog_1_method_6_code
def yX11_items : MethodName := ⟨RX11, "items", "()I"⟩
abbrev cX11_feed : ByteArray := prog_1_method_7_code
def yX11_feed : MethodName := ⟨RX11, "feed", "(C)I"⟩
abbrev cX11_discard : ByteArray := prog_1_method_8_code
def yX11_discard : MethodName := ⟨RX11, "discard", "()I"⟩
abbrev cX11_length : ByteArray := prog_1_method_9_code
def yX11_length : MethodName := ⟨RX11, "length", "()I"⟩
abbrev cX11_read : ByteArray := prog_1_method_10_code
def yX11_read : MethodName := ⟨RX11, "read", "()I"⟩
abbrev cX11_faultKind : ByteArray := prog_1_method_11_code
def yX11_faultKind : MethodName := ⟨RX11, "faultKind", "(I)I"⟩
abbrev cX11_faultPlace : ByteArray := prog_1_method_12_code
def yX11_faultPlace : MethodName := ⟨RX11, "faultPlace", "(I)I"⟩
abbrev cX11_control : ByteArray := prog_1_method_13_code
def yX11_control : MethodName := ⟨RX11, "control", "()I"⟩
abbrev cX11_segments : ByteArray := prog_1_method_14_code
def yX11_segments : MethodName := ⟨RX11, "segments", "()I"⟩
abbrev cX11_tag : ByteArray := prog_1_method_15_code
def yX11_tag : MethodName := ⟨RX11, "tag", "(I)C"⟩
abbrev cX11_elements : ByteArray := prog_1_method_16_code
def yX11_elements : MethodName := ⟨RX11, "elements", "(I)I"⟩
abbrev cX11_contentLength : ByteArray := prog_1_method_17_code
def yX11_contentLength : MethodName := ⟨RX11, "contentLength", "(II)I"⟩
abbrev cX11_content : ByteArray := prog_1_method_18_code
def yX11_content : MethodName := ⟨RX11, "content", "(III)C"⟩
abbrev cX11_item : ByteArray := prog_1_method_19_code
def yX11_item : MethodName := ⟨RX11, "item", "(I)I"⟩
abbrev cX11_pass : ByteArray := prog_1_method_20_code
def yX11_pass : MethodName := ⟨RX11, "pass", "(I)I"⟩
abbrev cX11_addRule : ByteArray := prog_1_method_21_code
def yX11_addRule : MethodName := ⟨RX11, "addRule", "(IC)I"⟩
abbrev cX11_addField : ByteArray := prog_1_method_22_code
def yX11_addField : MethodName := ⟨RX11, "addField", "(II)I"⟩
abbrev cX11_setCondition : ByteArray := prog_1_method_23_code
def yX11_setCondition : MethodName := ⟨RX11, "setCondition", "(IIC)V"⟩
abbrev cX11_write : ByteArray := prog_1_method_24_code
def yX11_write : MethodName := ⟨RX11, "write", "()I"⟩
abbrev cX11_written : ByteArray := prog_1_method_25_code
def yX11_written : MethodName := ⟨RX11, "written", "()I"⟩
abbrev cX11_letter : ByteArray := prog_1_method_26_code
def yX11_letter : MethodName := ⟨RX11, "letter", "(I)C"⟩
abbrev cX11_feedWritten : ByteArray := prog_1_method_27_code
def yX11_feedWritten : MethodName := ⟨RX11, "feedWritten", "()I"⟩
abbrev cX11_acceptDraft : ByteArray := prog_1_method_28_code
def yX11_acceptDraft : MethodName := ⟨RX11, "acceptDraft", "()V"⟩
abbrev cX11_needFault : ByteArray := prog_1_method_29_code
def yX11_needFault : MethodName := ⟨RX11, "needFault", "(I)V"⟩
abbrev cX11_needMessage : ByteArray := prog_1_method_30_code
def yX11_needMessage : MethodName := ⟨RX11, "needMessage", "()V"⟩
abbrev cX11_needSegment : ByteArray := prog_1_method_31_code
def yX11_needSegment : MethodName := ⟨RX11, "needSegment", "(I)V"⟩
abbrev cX11_needElement : ByteArray := prog_1_method_32_code
def yX11_needElement : MethodName := ⟨RX11, "needElement", "(II)V"⟩
abbrev cX11_needRule : ByteArray := prog_1_method_33_code
def yX11_needRule : MethodName := ⟨RX11, "needRule", "(I)V"⟩
abbrev cX11_isLetter : ByteArray := prog_1_method_34_code
def yX11_isLetter : MethodName := ⟨RX11, "isLetter", "(C)Z"⟩
abbrev cX11_isTag : ByteArray := prog_1_method_35_code
def yX11_isTag : MethodName := ⟨RX11, "isTag", "(C)Z"⟩
abbrev cX11_isBodyTag : ByteArray := prog_1_method_36_code
def yX11_isBodyTag : MethodName := ⟨RX11, "isBodyTag", "(C)Z"⟩
abbrev cX11_areTimes : ByteArray := prog_1_method_37_code
def yX11_areTimes : MethodName := ⟨RX11, "areTimes", "(II)Z"⟩
def RX12 : String := "SegmentryModel"
def TX12 : u_T := fun k => match k with
  | 0 => ("SegmentryModel", "itemTag", "[C", true)
  | 1 => ("SegmentryModel", "itemLeast", "[I", true)
  | 2 => ("SegmentryModel", "itemMost", "[I", true)
  | 3 => ("SegmentryModel", "itemEntry", "[I", true)
  | 4 => ("SegmentryModel", "items", "I", false)
  | 5 => ("SegmentryModel", "isLoop", "[Z", true)
  | 6 => ("SegmentryModel", "entryFirst", "[I", true)
  | 7 => ("SegmentryModel", "entryLast", "[I", true)
  | 8 => ("SegmentryModel", "entryLeast", "[I", true)
  | 9 => ("SegmentryModel", "entryMost", "[I", true)
  | 10 => ("SegmentryModel", "entries", "I", false)
  | 11 => ("SegmentryModel", "isOpen", "Z", false)
  | 12 => ("SegmentryModel", "text", "[C", true)
  | 13 => ("SegmentryModel", "length", "I", false)
  | 14 => ("SegmentryModel", "faultKind", "[I", true)
  | 15 => ("SegmentryModel", "faultPlace", "[I", true)
  | 16 => ("SegmentryModel", "faults", "I", false)
  | 17 => ("SegmentryModel", "begin", "[I", true)
  | 18 => ("SegmentryModel", "readTag", "[C", true)
  | 19 => ("SegmentryModel", "readElements", "[I", true)
  | 20 => ("SegmentryModel", "readLength", "[I", true)
  | 21 => ("SegmentryModel", "readContent", "[C", true)
  | 22 => ("SegmentryModel", "read", "I", false)
  | 23 => ("SegmentryModel", "isAccepted", "Z", false)
  | 24 => ("SegmentryModel", "hasControl", "Z", false)
  | 25 => ("SegmentryModel", "control", "I", false)
  | 26 => ("SegmentryModel", "tag", "[C", true)
  | 27 => ("SegmentryModel", "elements", "[I", true)
  | 28 => ("SegmentryModel", "contentLength", "[I", true)
  | 29 => ("SegmentryModel", "content", "[C", true)
  | 30 => ("SegmentryModel", "itemOf", "[I", true)
  | 31 => ("SegmentryModel", "passOf", "[I", true)
  | 32 => ("SegmentryModel", "segments", "I", false)
  | 33 => ("SegmentryModel", "isHopeful", "[Z", true)
  | 34 => ("SegmentryModel", "targets", "[I", true)
  | 35 => ("SegmentryModel", "found", "I", false)
  | 36 => ("SegmentryModel", "ruleItem", "[I", true)
  | 37 => ("SegmentryModel", "ruleTag", "[C", true)
  | 38 => ("SegmentryModel", "fields", "[I", true)
  | 39 => ("SegmentryModel", "field", "[I", true)
  | 40 => ("SegmentryModel", "conditionElement", "[I", true)
  | 41 => ("SegmentryModel", "conditionLetter", "[C", true)
  | 42 => ("SegmentryModel", "rules", "I", false)
  | 43 => ("SegmentryModel", "draft", "[C", true)
  | 44 => ("SegmentryModel", "drafted", "I", false)
  | 45 => ("SegmentryModel", "written", "[C", true)
  | 46 => ("SegmentryModel", "writtenLength", "I", false)
  | 47 => ("SegmentryModel", "messages", "I", false)
  | _ => ("SegmentryModel", "thrown", "I", false)
def tyX12 : Nat → FieldType := fun k => match k with
  | 0 => .array .char
  | 1 => .array .int
  | 2 => .array .int
  | 3 => .array .int
  | 4 => .int
  | 5 => .array .boolean
  | 6 => .array .int
  | 7 => .array .int
  | 8 => .array .int
  | 9 => .array .int
  | 10 => .int
  | 11 => .boolean
  | 12 => .array .char
  | 13 => .int
  | 14 => .array .int
  | 15 => .array .int
  | 16 => .int
  | 17 => .array .int
  | 18 => .array .char
  | 19 => .array .int
  | 20 => .array .int
  | 21 => .array .char
  | 22 => .int
  | 23 => .boolean
  | 24 => .boolean
  | 25 => .int
  | 26 => .array .char
  | 27 => .array .int
  | 28 => .array .int
  | 29 => .array .char
  | 30 => .array .int
  | 31 => .array .int
  | 32 => .int
  | 33 => .array .boolean
  | 34 => .array .int
  | 35 => .int
  | 36 => .array .int
  | 37 => .array .char
  | 38 => .array .int
  | 39 => .array .int
  | 40 => .array .int
  | 41 => .array .char
  | 42 => .int
  | 43 => .array .char
  | 44 => .int
  | 45 => .array .char
  | 46 => .int
  | 47 => .int
  | _ => .int
abbrev wsX120 : List Cond := u_ws RX12 TX12 49
theorem nmX12 : ∀ a, a < 49 → ∀ b, b < 49 → a ≠ b → (TX12 a).2.1 ≠ (TX12 b).2.1 := by decide +kernel
theorem tyX12_ok : ∀ k, k < 49 → parseFieldDescriptor (TX12 k).2.2.1 = some (tyX12 k) := by decide +kernel
abbrev cX12_init : ByteArray := prog_14_method_1_code
def yX12_init : MethodName := ⟨RX12, "<init>", "()V"⟩
abbrev cX12_thrown : ByteArray := prog_14_method_2_code
def yX12_thrown : MethodName := ⟨RX12, "thrown", "()I"⟩
abbrev cX12_in : ByteArray := prog_14_method_3_code
def yX12_in : MethodName := ⟨RX12, "in", "(III)Z"⟩
abbrev cX12_isFine : ByteArray := prog_14_method_4_code
def yX12_isFine : MethodName := ⟨RX12, "isFine", "(I)Z"⟩
abbrev cX12_isTag : ByteArray := prog_14_method_5_code
def yX12_isTag : MethodName := ⟨RX12, "isTag", "(C)Z"⟩
abbrev cX12_addItem : ByteArray := prog_14_method_6_code
def yX12_addItem : MethodName := ⟨RX12, "addItem", "(CII)I"⟩
abbrev cX12_openLoop : ByteArray := prog_14_method_7_code
def yX12_openLoop : MethodName := ⟨RX12, "openLoop", "(II)V"⟩
abbrev cX12_closeLoop : ByteArray := prog_14_method_8_code
def yX12_closeLoop : MethodName := ⟨RX12, "closeLoop", "()I"⟩
abbrev cX12_clear : ByteArray := prog_14_method_9_code
def yX12_clear : MethodName := ⟨RX12, "clear", "()V"⟩
abbrev cX12_items : ByteArray := prog_14_method_10_code
def yX12_items : MethodName := ⟨RX12, "items", "()I"⟩
abbrev cX12_feed : ByteArray := prog_14_method_11_code
def yX12_feed : MethodName := ⟨RX12, "feed", "(C)I"⟩
abbrev cX12_discard : ByteArray := prog_14_method_12_code
def yX12_discard : MethodName := ⟨RX12, "discard", "()I"⟩
abbrev cX12_length : ByteArray := prog_14_method_13_code
def yX12_length : MethodName := ⟨RX12, "length", "()I"⟩
abbrev cX12_fault : ByteArray := prog_14_method_14_code
def yX12_fault : MethodName := ⟨RX12, "fault", "(II)V"⟩
abbrev cX12_endOf : ByteArray := prog_14_method_15_code
def yX12_endOf : MethodName := ⟨RX12, "endOf", "(I)I"⟩
abbrev cX12_parts : ByteArray := prog_14_method_16_code
def yX12_parts : MethodName := ⟨RX12, "parts", "(II)V"⟩
abbrev cX12_splits : ByteArray := prog_14_method_17_code
def yX12_splits : MethodName := ⟨RX12, "splits", "()V"⟩
abbrev cX12_numberIn : ByteArray := prog_14_method_18_code
def yX12_numberIn : MethodName := ⟨RX12, "numberIn", "(II)I"⟩
abbrev cX12_envelope : ByteArray := prog_14_method_19_code
def yX12_envelope : MethodName := ⟨RX12, "envelope", "()V"⟩
abbrev cX12_numbers : ByteArray := prog_14_method_20_code
def yX12_numbers : MethodName := ⟨RX12, "numbers", "()V"⟩
abbrev cX12_isSkipped : ByteArray := prog_14_method_21_code
def yX12_isSkipped : MethodName := ⟨RX12, "isSkipped", "(I)Z"⟩
abbrev cX12_enters : ByteArray := prog_14_method_22_code
def yX12_enters : MethodName := ⟨RX12, "enters", "(IIIC)Z"⟩
abbrev cX12_leads : ByteArray := prog_14_method_23_code
def yX12_leads : MethodName := ⟨RX12, "leads", "(IC)V"⟩
abbrev cX12_canEnd : ByteArray := prog_14_method_24_code
def yX12_canEnd : MethodName := ⟨RX12, "canEnd", "(I)Z"⟩
abbrev cX12_hopes : ByteArray := prog_14_method_25_code
def yX12_hopes : MethodName := ⟨RX12, "hopes", "(I)V"⟩
abbrev cX12_isSome : ByteArray := prog_14_method_26_code
def yX12_isSome : MethodName := ⟨RX12, "isSome", "(I)Z"⟩
abbrev cX12_viable : ByteArray := prog_14_method_27_code
def yX12_viable : MethodName := ⟨RX12, "viable", "(I)I"⟩
abbrev cX12_matches : ByteArray := prog_14_method_28_code
def yX12_matches : MethodName := ⟨RX12, "matches", "()V"⟩
abbrev cX12_accepts : ByteArray := prog_14_method_29_code
def yX12_accepts : MethodName := ⟨RX12, "accepts", "()V"⟩
abbrev cX12_read : ByteArray := prog_14_method_30_code
def yX12_read : MethodName := ⟨RX12, "read", "()I"⟩
abbrev cX12_faultKind : ByteArray := prog_14_method_31_code
def yX12_faultKind : MethodName := ⟨RX12, "faultKind", "(I)I"⟩
abbrev cX12_faultPlace : ByteArray := prog_14_method_32_code
def yX12_faultPlace : MethodName := ⟨RX12, "faultPlace", "(I)I"⟩
abbrev cX12_control : ByteArray := prog_14_method_33_code
def yX12_control : MethodName := ⟨RX12, "control", "()I"⟩
abbrev cX12_segments : ByteArray := prog_14_method_34_code
def yX12_segments : MethodName := ⟨RX12, "segments", "()I"⟩
abbrev cX12_wrong : ByteArray := prog_14_method_35_code
def yX12_wrong : MethodName := ⟨RX12, "wrong", "(I)I"⟩
abbrev cX12_wrongElement : ByteArray := prog_14_method_36_code
def yX12_wrongElement : MethodName := ⟨RX12, "wrongElement", "(II)I"⟩
abbrev cX12_tag : ByteArray := prog_14_method_37_code
def yX12_tag : MethodName := ⟨RX12, "tag", "(I)C"⟩
abbrev cX12_elements : ByteArray := prog_14_method_38_code
def yX12_elements : MethodName := ⟨RX12, "elements", "(I)I"⟩
abbrev cX12_contentLength : ByteArray := prog_14_method_39_code
def yX12_contentLength : MethodName := ⟨RX12, "contentLength", "(II)I"⟩
abbrev cX12_content : ByteArray := prog_14_method_40_code
def yX12_content : MethodName := ⟨RX12, "content", "(III)C"⟩
abbrev cX12_item : ByteArray := prog_14_method_41_code
def yX12_item : MethodName := ⟨RX12, "item", "(I)I"⟩
abbrev cX12_pass : ByteArray := prog_14_method_42_code
def yX12_pass : MethodName := ⟨RX12, "pass", "(I)I"⟩
abbrev cX12_addRule : ByteArray := prog_14_method_43_code
def yX12_addRule : MethodName := ⟨RX12, "addRule", "(IC)I"⟩
abbrev cX12_addField : ByteArray := prog_14_method_44_code
def yX12_addField : MethodName := ⟨RX12, "addField", "(II)I"⟩
abbrev cX12_setCondition : ByteArray := prog_14_method_45_code
def yX12_setCondition : MethodName := ⟨RX12, "setCondition", "(IIC)V"⟩
abbrev cX12_isWriting : ByteArray := prog_14_method_46_code
def yX12_isWriting : MethodName := ⟨RX12, "isWriting", "(II)Z"⟩
abbrev cX12_puts : ByteArray := prog_14_method_47_code
def yX12_puts : MethodName := ⟨RX12, "puts", "(C)V"⟩
abbrev cX12_putsNumber : ByteArray := prog_14_method_48_code
def yX12_putsNumber : MethodName := ⟨RX12, "putsNumber", "(I)V"⟩
abbrev cX12_putsContent : ByteArray := prog_14_method_49_code
def yX12_putsContent : MethodName := ⟨RX12, "putsContent", "(II)V"⟩
abbrev cX12_drafts : ByteArray := prog_14_method_50_code
def yX12_drafts : MethodName := ⟨RX12, "drafts", "()I"⟩
abbrev cX12_write : ByteArray := prog_14_method_51_code
def yX12_write : MethodName := ⟨RX12, "write", "()I"⟩
abbrev cX12_written : ByteArray := prog_14_method_52_code
def yX12_written : MethodName := ⟨RX12, "written", "()I"⟩
abbrev cX12_letter : ByteArray := prog_14_method_53_code
def yX12_letter : MethodName := ⟨RX12, "letter", "(I)C"⟩
abbrev cX12_feedWritten : ByteArray := prog_14_method_54_code
def yX12_feedWritten : MethodName := ⟨RX12, "feedWritten", "()I"⟩
def RL : String := "SegmentryLaw"
abbrev cL_addItem : ByteArray := method_3_code
def yL_addItem : MethodName := ⟨RL, "addItem", "(LSegmentry;CII[J)I"⟩
abbrev cL_openLoop : ByteArray := method_4_code
def yL_openLoop : MethodName := ⟨RL, "openLoop", "(LSegmentry;II)I"⟩
abbrev cL_closeLoop : ByteArray := method_5_code
def yL_closeLoop : MethodName := ⟨RL, "closeLoop", "(LSegmentry;[J)I"⟩
abbrev cL_feed : ByteArray := method_6_code
def yL_feed : MethodName := ⟨RL, "feed", "(LSegmentry;C[J)I"⟩
abbrev cL_read : ByteArray := method_7_code
def yL_read : MethodName := ⟨RL, "read", "(LSegmentry;[J)I"⟩
abbrev cL_faultKind : ByteArray := method_8_code
def yL_faultKind : MethodName := ⟨RL, "faultKind", "(LSegmentry;I[J)I"⟩
abbrev cL_faultPlace : ByteArray := method_9_code
def yL_faultPlace : MethodName := ⟨RL, "faultPlace", "(LSegmentry;I[J)I"⟩
abbrev cL_control : ByteArray := method_10_code
def yL_control : MethodName := ⟨RL, "control", "(LSegmentry;[J)I"⟩
abbrev cL_segments : ByteArray := method_11_code
def yL_segments : MethodName := ⟨RL, "segments", "(LSegmentry;[J)I"⟩
abbrev cL_tag : ByteArray := method_12_code
def yL_tag : MethodName := ⟨RL, "tag", "(LSegmentry;I[J)I"⟩
abbrev cL_elements : ByteArray := method_13_code
def yL_elements : MethodName := ⟨RL, "elements", "(LSegmentry;I[J)I"⟩
abbrev cL_contentLength : ByteArray := method_14_code
def yL_contentLength : MethodName := ⟨RL, "contentLength", "(LSegmentry;II[J)I"⟩
abbrev cL_content : ByteArray := method_15_code
def yL_content : MethodName := ⟨RL, "content", "(LSegmentry;III[J)I"⟩
abbrev cL_item : ByteArray := method_16_code
def yL_item : MethodName := ⟨RL, "item", "(LSegmentry;I[J)I"⟩
abbrev cL_pass : ByteArray := method_17_code
def yL_pass : MethodName := ⟨RL, "pass", "(LSegmentry;I[J)I"⟩
abbrev cL_addRule : ByteArray := method_18_code
def yL_addRule : MethodName := ⟨RL, "addRule", "(LSegmentry;IC[J)I"⟩
abbrev cL_addField : ByteArray := method_19_code
def yL_addField : MethodName := ⟨RL, "addField", "(LSegmentry;II[J)I"⟩
abbrev cL_setCondition : ByteArray := method_20_code
def yL_setCondition : MethodName := ⟨RL, "setCondition", "(LSegmentry;IIC)I"⟩
abbrev cL_write : ByteArray := method_21_code
def yL_write : MethodName := ⟨RL, "write", "(LSegmentry;[J)I"⟩
abbrev cL_letter : ByteArray := method_22_code
def yL_letter : MethodName := ⟨RL, "letter", "(LSegmentry;I[J)I"⟩
abbrev cL_feedWritten : ByteArray := method_23_code
def yL_feedWritten : MethodName := ⟨RL, "feedWritten", "(LSegmentry;[J)I"⟩
abbrev cL_law : ByteArray := code
def yL_law : MethodName := ⟨RL, "law", "([I)Z"⟩
abbrev vwCl : List vw_C := [(RX0, TX0, 5), (RX1, TX1, 3), (RX2, TX2, 3), (RX3, TX3, 6), (RX4, TX4, 3), (RX5, TX5, 2), (RX6, TX6, 6), (RX7, TX7, 3), (RX8, TX8, 7), (RX9, TX9, 7), (RX10, TX10, 3), (RX11, TX11, 13), (RX12, TX12, 49)]
theorem inX0 : ∀ w ∈ wsX00, w ∈ lw_tbl := by decide +kernel
theorem inX1 : ∀ w ∈ wsX10, w ∈ lw_tbl := by decide +kernel
theorem inX2 : ∀ w ∈ wsX20, w ∈ lw_tbl := by decide +kernel
theorem inX3 : ∀ w ∈ wsX30, w ∈ lw_tbl := by decide +kernel
theorem inX4 : ∀ w ∈ wsX40, w ∈ lw_tbl := by decide +kernel
theorem inX5 : ∀ w ∈ wsX50, w ∈ lw_tbl := by decide +kernel
theorem inX6 : ∀ w ∈ wsX60, w ∈ lw_tbl := by decide +kernel
theorem inX7 : ∀ w ∈ wsX70, w ∈ lw_tbl := by decide +kernel
theorem inX8 : ∀ w ∈ wsX80, w ∈ lw_tbl := by decide +kernel
theorem inX9 : ∀ w ∈ wsX90, w ∈ lw_tbl := by decide +kernel
theorem inX10 : ∀ w ∈ wsX100, w ∈ lw_tbl := by decide +kernel
theorem inX11 : ∀ w ∈ wsX110, w ∈ lw_tbl := by decide +kernel
theorem inX12 : ∀ w ∈ wsX120, w ∈ lw_tbl := by decide +kernel
end
section
theorem dX0_init_0 : decode cX0_init 0 = .ok (.aload_n 0, 1) := by decide +kernel
theorem dX0_init_1 : decode cX0_init 1 = .ok (.invokespecial 1, 3) := by decide +kernel
theorem dX0_init_4 : decode cX0_init 4 = .ok (.return_, 1) := by decide +kernel
theorem dX0_begin_0 : decode cX0_begin 0 = .ok (.aload_n 0, 1) := by decide +kernel
theorem dX0_begin_1 : decode cX0_begin 1 = .ok (.iload_n 1, 1) := by decide +kernel
theorem dX0_begin_2 : decode cX0_begin 2 = .ok (.putfield 7, 3) := by decide +kernel
theorem dX0_begin_5 : decode cX0_begin 5 = .ok (.aload_n 0, 1) := by decide +kernel
theorem dX0_begin_6 : decode cX0_begin 6 = .ok (.iload_n 2, 1) := by decide +kernel
theorem dX0_begin_7 : decode cX0_begin 7 = .ok (.putfield 13, 3) := by decide +kernel
theorem dX0_begin_10 : decode cX0_begin 10 = .ok (.aload_n 0, 1) := by decide +kernel
theorem dX0_begin_11 : decode cX0_begin 11 = .ok (.iload_n 2, 1) := by decide +kernel
theorem dX0_begin_12 : decode cX0_begin 12 = .ok (.putfield 17, 3) := by decide +kernel
theorem dX0_begin_15 : decode cX0_begin 15 = .ok (.aload_n 0, 1) := by decide +kernel
theorem dX0_begin_16 : decode cX0_begin 16 = .ok (.iload_n 3, 1) := by decide +kernel
theorem dX0_begin_17 : decode cX0_begin 17 = .ok (.putfield 20, 3) := by decide +kernel
theorem dX0_begin_20 : decode cX0_begin 20 = .ok (.aload_n 0, 1) := by decide +kernel
theorem dX0_begin_21 : decode cX0_begin 21 = .ok (.iload 4, 2) := by decide +kernel
theorem dX0_begin_23 : decode cX0_begin 23 = .ok (.putfield 23, 3) := by decide +kernel
theorem dX0_begin_26 : decode cX0_begin 26 = .ok (.return_, 1) := by decide +kernel
theorem dX0_extend_0 : decode cX0_extend 0 = .ok (.aload_n 0, 1) := by decide +kernel
theorem dX0_extend_1 : decode cX0_extend 1 = .ok (.dup, 1) := by decide +kernel
theorem dX0_extend_2 : decode cX0_extend 2 = .ok (.getfield 17, 3) := by decide +kernel
theorem dX0_extend_5 : decode cX0_extend 5 = .ok (.iconst 1, 1) := by decide +kernel
theorem dX0_extend_6 : decode cX0_extend 6 = .ok (.iadd, 1) := by decide +kernel
theorem dX0_extend_7 : decode cX0_extend 7 = .ok (.putfield 17, 3) := by decide +kernel
theorem dX0_extend_10 : decode cX0_extend 10 = .ok (.return_, 1) := by decide +kernel
theorem dX1_init_0 : decode cX1_init 0 = .ok (.aload_n 0, 1) := by decide +kernel
theorem dX1_init_1 : decode cX1_init 1 = .ok (.invokespecial 3, 3) := by decide +kernel
theorem dX1_init_4 : decode cX1_init 4 = .ok (.aload_n 0, 1) := by decide +kernel
theorem dX1_init_5 : decode cX1_init 5 = .ok (.sipush 141, 3) := by decide +kernel
theorem dX1_init_8 : decode cX1_init 8 = .ok (.newarray .int, 2) := by decide +kernel
theorem dX1_init_10 : decode cX1_init 10 = .ok (.putfield 9, 3) := by decide +kernel
theorem dX1_init_13 : decode cX1_init 13 = .ok (.aload_n 0, 1) := by decide +kernel
theorem dX1_init_14 : decode cX1_init 14 = .ok (.sipush 141, 3) := by decide +kernel
theorem dX1_init_17 : decode cX1_init 17 = .ok (.newarray .int, 2) := by decide +kernel
theorem dX1_init_19 : decode cX1_init 19 = .ok (.putfield 15, 3) := by decide +kernel
theorem dX1_init_22 : decode cX1_init 22 = .ok (.return_, 1) := by decide +kernel
theorem dX1_wipe_0 : decode cX1_wipe 0 = .ok (.aload_n 0, 1) := by decide +kernel
theorem dX1_wipe_1 : decode cX1_wipe 1 = .ok (.iconst 0, 1) := by decide +kernel
theorem dX1_wipe_2 : decode cX1_wipe 2 = .ok (.putfield 18, 3) := by decide +kernel
theorem dX1_wipe_5 : decode cX1_wipe 5 = .ok (.return_, 1) := by decide +kernel
theorem dX1_count_0 : decode cX1_count 0 = .ok (.aload_n 0, 1) := by decide +kernel
theorem dX1_count_1 : decode cX1_count 1 = .ok (.getfield 18, 3) := by decide +kernel
theorem dX1_count_4 : decode cX1_count 4 = .ok (.ireturn, 1) := by decide +kernel
theorem dX1_add_0 : decode cX1_add 0 = .ok (.aload_n 0, 1) := by decide +kernel
theorem dX1_add_1 : decode cX1_add 1 = .ok (.getfield 18, 3) := by decide +kernel
theorem dX1_add_4 : decode cX1_add 4 = .ok (.sipush 141, 3) := by decide +kernel
theorem dX1_add_7 : decode cX1_add 7 = .ok (.if_icmp .ge 33, 3) := by decide +kernel
theorem dX1_add_10 : decode cX1_add 10 = .ok (.aload_n 0, 1) := by decide +kernel
theorem dX1_add_11 : decode cX1_add 11 = .ok (.getfield 9, 3) := by decide +kernel
theorem dX1_add_14 : decode cX1_add 14 = .ok (.aload_n 0, 1) := by decide +kernel
theorem dX1_add_15 : decode cX1_add 15 = .ok (.getfield 18, 3) := by decide +kernel
theorem dX1_add_18 : decode cX1_add 18 = .ok (.iload_n 1, 1) := by decide +kernel
theorem dX1_add_19 : decode cX1_add 19 = .ok (.iastore, 1) := by decide +kernel
theorem dX1_add_20 : decode cX1_add 20 = .ok (.aload_n 0, 1) := by decide +kernel
theorem dX1_add_21 : decode cX1_add 21 = .ok (.getfield 15, 3) := by decide +kernel
theorem dX1_add_24 : decode cX1_add 24 = .ok (.aload_n 0, 1) := by decide +kernel
theorem dX1_add_25 : decode cX1_add 25 = .ok (.getfield 18, 3) := by decide +kernel
theorem dX1_add_28 : decode cX1_add 28 = .ok (.iload_n 2, 1) := by decide +kernel
theorem dX1_add_29 : decode cX1_add 29 = .ok (.iastore, 1) := by decide +kernel
theorem dX1_add_30 : decode cX1_add 30 = .ok (.aload_n 0, 1) := by decide +kernel
theorem dX1_add_31 : decode cX1_add 31 = .ok (.dup, 1) := by decide +kernel
theorem dX1_add_32 : decode cX1_add 32 = .ok (.getfield 18, 3) := by decide +kernel
theorem dX1_add_35 : decode cX1_add 35 = .ok (.iconst 1, 1) := by decide +kernel
theorem dX1_add_36 : decode cX1_add 36 = .ok (.iadd, 1) := by decide +kernel
theorem dX1_add_37 : decode cX1_add 37 = .ok (.putfield 18, 3) := by decide +kernel
theorem dX1_add_40 : decode cX1_add 40 = .ok (.return_, 1) := by decide +kernel
theorem dX1_kindOf_0 : decode cX1_kindOf 0 = .ok (.iload_n 1, 1) := by decide +kernel
theorem dX1_kindOf_1 : decode cX1_kindOf 1 = .ok (.ifCond .lt 20, 3) := by decide +kernel
theorem dX1_kindOf_4 : decode cX1_kindOf 4 = .ok (.iload_n 1, 1) := by decide +kernel
theorem dX1_kindOf_5 : decode cX1_kindOf 5 = .ok (.aload_n 0, 1) := by decide +kernel
theorem dX1_kindOf_6 : decode cX1_kindOf 6 = .ok (.getfield 18, 3) := by decide +kernel
theorem dX1_kindOf_9 : decode cX1_kindOf 9 = .ok (.if_icmp .ge 12, 3) := by decide +kernel
theorem dX1_kindOf_12 : decode cX1_kindOf 12 = .ok (.aload_n 0, 1) := by decide +kernel
theorem dX1_kindOf_13 : decode cX1_kindOf 13 = .ok (.getfield 9, 3) := by decide +kernel
theorem dX1_kindOf_16 : decode cX1_kindOf 16 = .ok (.iload_n 1, 1) := by decide +kernel
theorem dX1_kindOf_17 : decode cX1_kindOf 17 = .ok (.iaload, 1) := by decide +kernel
theorem dX1_kindOf_18 : decode cX1_kindOf 18 = .ok (.goto 4, 3) := by decide +kernel
theorem dX1_kindOf_21 : decode cX1_kindOf 21 = .ok (.iconst 0, 1) := by decide +kernel
theorem dX1_kindOf_22 : decode cX1_kindOf 22 = .ok (.ireturn, 1) := by decide +kernel
theorem dX1_placeOf_0 : decode cX1_placeOf 0 = .ok (.iload_n 1, 1) := by decide +kernel
theorem dX1_placeOf_1 : decode cX1_placeOf 1 = .ok (.ifCond .lt 20, 3) := by decide +kernel
theorem dX1_placeOf_4 : decode cX1_placeOf 4 = .ok (.iload_n 1, 1) := by decide +kernel
theorem dX1_placeOf_5 : decode cX1_placeOf 5 = .ok (.aload_n 0, 1) := by decide +kernel
theorem dX1_placeOf_6 : decode cX1_placeOf 6 = .ok (.getfield 18, 3) := by decide +kernel
theorem dX1_placeOf_9 : decode cX1_placeOf 9 = .ok (.if_icmp .ge 12, 3) := by decide +kernel
theorem dX1_placeOf_12 : decode cX1_placeOf 12 = .ok (.aload_n 0, 1) := by decide +kernel
theorem dX1_placeOf_13 : decode cX1_placeOf 13 = .ok (.getfield 15, 3) := by decide +kernel
theorem dX1_placeOf_16 : decode cX1_placeOf 16 = .ok (.iload_n 1, 1) := by decide +kernel
theorem dX1_placeOf_17 : decode cX1_placeOf 17 = .ok (.iaload, 1) := by decide +kernel
theorem dX1_placeOf_18 : decode cX1_placeOf 18 = .ok (.goto 4, 3) := by decide +kernel
theorem dX1_placeOf_21 : decode cX1_placeOf 21 = .ok (.iconst 0, 1) := by decide +kernel
theorem dX1_placeOf_22 : decode cX1_placeOf 22 = .ok (.ireturn, 1) := by decide +kernel
theorem dX2_init_0 : decode cX2_init 0 = .ok (.aload_n 0, 1) := by decide +kernel
theorem dX2_init_1 : decode cX2_init 1 = .ok (.invokespecial 1, 3) := by decide +kernel
theorem dX2_init_4 : decode cX2_init 4 = .ok (.return_, 1) := by decide +kernel
theorem dX2_set_0 : decode cX2_set 0 = .ok (.aload_n 0, 1) := by decide +kernel
theorem dX2_set_1 : decode cX2_set 1 = .ok (.iload_n 1, 1) := by decide +kernel
theorem dX2_set_2 : decode cX2_set 2 = .ok (.putfield 7, 3) := by decide +kernel
theorem dX2_set_5 : decode cX2_set 5 = .ok (.aload_n 0, 1) := by decide +kernel
theorem dX2_set_6 : decode cX2_set 6 = .ok (.iload_n 2, 1) := by decide +kernel
theorem dX2_set_7 : decode cX2_set 7 = .ok (.putfield 13, 3) := by decide +kernel
theorem dX2_set_10 : decode cX2_set 10 = .ok (.aload_n 0, 1) := by decide +kernel
theorem dX2_set_11 : decode cX2_set 11 = .ok (.iload_n 3, 1) := by decide +kernel
theorem dX2_set_12 : decode cX2_set 12 = .ok (.putfield 17, 3) := by decide +kernel
theorem dX2_set_15 : decode cX2_set 15 = .ok (.return_, 1) := by decide +kernel
theorem dX3_init_0 : decode cX3_init 0 = .ok (.aload_n 0, 1) := by decide +kernel
theorem dX3_init_1 : decode cX3_init 1 = .ok (.invokespecial 3, 3) := by decide +kernel
theorem dX3_init_4 : decode cX3_init 4 = .ok (.aload_n 0, 1) := by decide +kernel
theorem dX3_init_5 : decode cX3_init 5 = .ok (.bipush 10, 2) := by decide +kernel
theorem dX3_init_7 : decode cX3_init 7 = .ok (.newarray .int, 2) := by decide +kernel
theorem dX3_init_9 : decode cX3_init 9 = .ok (.putfield 9, 3) := by decide +kernel
theorem dX3_init_12 : decode cX3_init 12 = .ok (.aload_n 0, 1) := by decide +kernel
theorem dX3_init_13 : decode cX3_init 13 = .ok (.bipush 12, 2) := by decide +kernel
theorem dX3_init_15 : decode cX3_init 15 = .ok (.newarray .int, 2) := by decide +kernel
theorem dX3_init_17 : decode cX3_init 17 = .ok (.putfield 15, 3) := by decide +kernel
theorem dX3_init_20 : decode cX3_init 20 = .ok (.aload_n 0, 1) := by decide +kernel
theorem dX3_init_21 : decode cX3_init 21 = .ok (.bipush 10, 2) := by decide +kernel
theorem dX3_init_23 : decode cX3_init 23 = .ok (.newarray .int, 2) := by decide +kernel
theorem dX3_init_25 : decode cX3_init 25 = .ok (.putfield 18, 3) := by decide +kernel
theorem dX3_init_28 : decode cX3_init 28 = .ok (.aload_n 0, 1) := by decide +kernel
theorem dX3_init_29 : decode cX3_init 29 = .ok (.bipush 11, 2) := by decide +kernel
theorem dX3_init_31 : decode cX3_init 31 = .ok (.newarray .int, 2) := by decide +kernel
theorem dX3_init_33 : decode cX3_init 33 = .ok (.putfield 21, 3) := by decide +kernel
theorem dX3_init_36 : decode cX3_init 36 = .ok (.aload_n 0, 1) := by decide +kernel
theorem dX3_init_37 : decode cX3_init 37 = .ok (.aload_n 1, 1) := by decide +kernel
theorem dX3_init_38 : decode cX3_init 38 = .ok (.putfield 24, 3) := by decide +kernel
theorem dX3_init_41 : decode cX3_init 41 = .ok (.return_, 1) := by decide +kernel
theorem dX3_canDivide_0 : decode cX3_canDivide 0 = .ok (.aload_n 0, 1) := by decide +kernel
theorem dX3_canDivide_1 : decode cX3_canDivide 1 = .ok (.aload_n 1, 1) := by decide +kernel
theorem dX3_canDivide_2 : decode cX3_canDivide 2 = .ok (.invokevirtual 28, 3) := by decide +kernel
theorem dX3_canDivide_5 : decode cX3_canDivide 5 = .ok (.aload_n 0, 1) := by decide +kernel
theorem dX3_canDivide_6 : decode cX3_canDivide 6 = .ok (.getfield 24, 3) := by decide +kernel
theorem dX3_canDivide_9 : decode cX3_canDivide 9 = .ok (.invokevirtual 32, 3) := by decide +kernel
theorem dX3_canDivide_12 : decode cX3_canDivide 12 = .ok (.istore_n 2, 1) := by decide +kernel
theorem dX3_canDivide_13 : decode cX3_canDivide 13 = .ok (.aload_n 0, 1) := by decide +kernel
theorem dX3_canDivide_14 : decode cX3_canDivide 14 = .ok (.getfield 15, 3) := by decide +kernel
theorem dX3_canDivide_17 : decode cX3_canDivide 17 = .ok (.iload_n 2, 1) := by decide +kernel
theorem dX3_canDivide_18 : decode cX3_canDivide 18 = .ok (.iconst 1, 1) := by decide +kernel
theorem dX3_canDivide_19 : decode cX3_canDivide 19 = .ok (.aload_n 1, 1) := by decide +kernel
theorem dX3_canDivide_20 : decode cX3_canDivide 20 = .ok (.invokevirtual 38, 3) := by decide +kernel
theorem dX3_canDivide_23 : decode cX3_canDivide 23 = .ok (.ishl, 1) := by decide +kernel
theorem dX3_canDivide_24 : decode cX3_canDivide 24 = .ok (.iastore, 1) := by decide +kernel
theorem dX3_canDivide_25 : decode cX3_canDivide 25 = .ok (.iload_n 2, 1) := by decide +kernel
theorem dX3_canDivide_26 : decode cX3_canDivide 26 = .ok (.iconst 1, 1) := by decide +kernel
theorem dX3_canDivide_27 : decode cX3_canDivide 27 = .ok (.isub, 1) := by decide +kernel
theorem dX3_canDivide_28 : decode cX3_canDivide 28 = .ok (.istore_n 3, 1) := by decide +kernel
theorem dX3_canDivide_29 : decode cX3_canDivide 29 = .ok (.iload_n 3, 1) := by decide +kernel
theorem dX3_canDivide_30 : decode cX3_canDivide 30 = .ok (.ifCond .lt 41, 3) := by decide +kernel
theorem dX3_canDivide_33 : decode cX3_canDivide 33 = .ok (.aload_n 0, 1) := by decide +kernel
theorem dX3_canDivide_34 : decode cX3_canDivide 34 = .ok (.aload_n 0, 1) := by decide +kernel
theorem dX3_canDivide_35 : decode cX3_canDivide 35 = .ok (.getfield 24, 3) := by decide +kernel
theorem dX3_canDivide_38 : decode cX3_canDivide 38 = .ok (.iload_n 3, 1) := by decide +kernel
theorem dX3_canDivide_39 : decode cX3_canDivide 39 = .ok (.invokevirtual 43, 3) := by decide +kernel
theorem dX3_canDivide_42 : decode cX3_canDivide 42 = .ok (.aload_n 0, 1) := by decide +kernel
theorem dX3_canDivide_43 : decode cX3_canDivide 43 = .ok (.getfield 15, 3) := by decide +kernel
theorem dX3_canDivide_46 : decode cX3_canDivide 46 = .ok (.iload_n 3, 1) := by decide +kernel
theorem dX3_canDivide_47 : decode cX3_canDivide 47 = .ok (.iconst 1, 1) := by decide +kernel
theorem dX3_canDivide_48 : decode cX3_canDivide 48 = .ok (.iadd, 1) := by decide +kernel
theorem dX3_canDivide_49 : decode cX3_canDivide 49 = .ok (.iaload, 1) := by decide +kernel
theorem dX3_canDivide_50 : decode cX3_canDivide 50 = .ok (.invokevirtual 47, 3) := by decide +kernel
theorem dX3_canDivide_53 : decode cX3_canDivide 53 = .ok (.aload_n 0, 1) := by decide +kernel
theorem dX3_canDivide_54 : decode cX3_canDivide 54 = .ok (.getfield 15, 3) := by decide +kernel
theorem dX3_canDivide_57 : decode cX3_canDivide 57 = .ok (.iload_n 3, 1) := by decide +kernel
theorem dX3_canDivide_58 : decode cX3_canDivide 58 = .ok (.aload_n 0, 1) := by decide +kernel
theorem dX3_canDivide_59 : decode cX3_canDivide 59 = .ok (.getfield 18, 3) := by decide +kernel
theorem dX3_canDivide_62 : decode cX3_canDivide 62 = .ok (.iconst 0, 1) := by decide +kernel
theorem dX3_canDivide_63 : decode cX3_canDivide 63 = .ok (.iaload, 1) := by decide +kernel
theorem dX3_canDivide_64 : decode cX3_canDivide 64 = .ok (.iastore, 1) := by decide +kernel
theorem dX3_canDivide_65 : decode cX3_canDivide 65 = .ok (.iinc 3 (-1), 3) := by decide +kernel
theorem dX3_canDivide_68 : decode cX3_canDivide 68 = .ok (.goto (-39), 3) := by decide +kernel
theorem dX3_canDivide_71 : decode cX3_canDivide 71 = .ok (.aload_n 0, 1) := by decide +kernel
theorem dX3_canDivide_72 : decode cX3_canDivide 72 = .ok (.getfield 15, 3) := by decide +kernel
theorem dX3_canDivide_75 : decode cX3_canDivide 75 = .ok (.iconst 0, 1) := by decide +kernel
theorem dX3_canDivide_76 : decode cX3_canDivide 76 = .ok (.iaload, 1) := by decide +kernel
theorem dX3_canDivide_77 : decode cX3_canDivide 77 = .ok (.iconst 0, 1) := by decide +kernel
theorem dX3_canDivide_78 : decode cX3_canDivide 78 = .ok (.invokestatic 51, 3) := by decide +kernel
theorem dX3_canDivide_81 : decode cX3_canDivide 81 = .ok (.ireturn, 1) := by decide +kernel
theorem dX3_divide_0 : decode cX3_divide 0 = .ok (.iconst 0, 1) := by decide +kernel
theorem dX3_divide_1 : decode cX3_divide 1 = .ok (.istore_n 2, 1) := by decide +kernel
theorem dX3_divide_2 : decode cX3_divide 2 = .ok (.iconst 0, 1) := by decide +kernel
theorem dX3_divide_3 : decode cX3_divide 3 = .ok (.istore_n 3, 1) := by decide +kernel
theorem dX3_divide_4 : decode cX3_divide 4 = .ok (.iload_n 3, 1) := by decide +kernel
theorem dX3_divide_5 : decode cX3_divide 5 = .ok (.aload_n 0, 1) := by decide +kernel
theorem dX3_divide_6 : decode cX3_divide 6 = .ok (.getfield 24, 3) := by decide +kernel
theorem dX3_divide_9 : decode cX3_divide 9 = .ok (.invokevirtual 32, 3) := by decide +kernel
theorem dX3_divide_12 : decode cX3_divide 12 = .ok (.if_icmp .ge 85, 3) := by decide +kernel
theorem dX3_divide_15 : decode cX3_divide 15 = .ok (.aload_n 0, 1) := by decide +kernel
theorem dX3_divide_16 : decode cX3_divide 16 = .ok (.getfield 24, 3) := by decide +kernel
theorem dX3_divide_19 : decode cX3_divide 19 = .ok (.iload_n 3, 1) := by decide +kernel
theorem dX3_divide_20 : decode cX3_divide 20 = .ok (.invokevirtual 43, 3) := by decide +kernel
theorem dX3_divide_23 : decode cX3_divide 23 = .ok (.astore 4, 2) := by decide +kernel
theorem dX3_divide_25 : decode cX3_divide 25 = .ok (.aload_n 0, 1) := by decide +kernel
theorem dX3_divide_26 : decode cX3_divide 26 = .ok (.aload 4, 2) := by decide +kernel
theorem dX3_divide_28 : decode cX3_divide 28 = .ok (.aload_n 0, 1) := by decide +kernel
theorem dX3_divide_29 : decode cX3_divide 29 = .ok (.getfield 15, 3) := by decide +kernel
theorem dX3_divide_32 : decode cX3_divide 32 = .ok (.iload_n 3, 1) := by decide +kernel
theorem dX3_divide_33 : decode cX3_divide 33 = .ok (.iconst 1, 1) := by decide +kernel
theorem dX3_divide_34 : decode cX3_divide 34 = .ok (.iadd, 1) := by decide +kernel
theorem dX3_divide_35 : decode cX3_divide 35 = .ok (.iaload, 1) := by decide +kernel
theorem dX3_divide_36 : decode cX3_divide 36 = .ok (.invokevirtual 47, 3) := by decide +kernel
theorem dX3_divide_39 : decode cX3_divide 39 = .ok (.iconst 0, 1) := by decide +kernel
theorem dX3_divide_40 : decode cX3_divide 40 = .ok (.istore 5, 2) := by decide +kernel
theorem dX3_divide_42 : decode cX3_divide 42 = .ok (.iload 5, 2) := by decide +kernel
theorem dX3_divide_44 : decode cX3_divide 44 = .ok (.aload 4, 2) := by decide +kernel
theorem dX3_divide_46 : decode cX3_divide 46 = .ok (.getfield 55, 3) := by decide +kernel
theorem dX3_divide_49 : decode cX3_divide 49 = .ok (.if_icmp .ge 42, 3) := by decide +kernel
theorem dX3_divide_52 : decode cX3_divide 52 = .ok (.aload_n 0, 1) := by decide +kernel
theorem dX3_divide_53 : decode cX3_divide 53 = .ok (.aload 4, 2) := by decide +kernel
theorem dX3_divide_55 : decode cX3_divide 55 = .ok (.aload_n 0, 1) := by decide +kernel
theorem dX3_divide_56 : decode cX3_divide 56 = .ok (.getfield 18, 3) := by decide +kernel
theorem dX3_divide_59 : decode cX3_divide 59 = .ok (.iload 5, 2) := by decide +kernel
theorem dX3_divide_61 : decode cX3_divide 61 = .ok (.iconst 1, 1) := by decide +kernel
theorem dX3_divide_62 : decode cX3_divide 62 = .ok (.iadd, 1) := by decide +kernel
theorem dX3_divide_63 : decode cX3_divide 63 = .ok (.iaload, 1) := by decide +kernel
theorem dX3_divide_64 : decode cX3_divide 64 = .ok (.invokevirtual 61, 3) := by decide +kernel
theorem dX3_divide_67 : decode cX3_divide 67 = .ok (.iload_n 2, 1) := by decide +kernel
theorem dX3_divide_68 : decode cX3_divide 68 = .ok (.invokestatic 51, 3) := by decide +kernel
theorem dX3_divide_71 : decode cX3_divide 71 = .ok (.ifCond .eq 20, 3) := by decide +kernel
theorem dX3_divide_74 : decode cX3_divide 74 = .ok (.iinc 5 1, 3) := by decide +kernel
theorem dX3_divide_77 : decode cX3_divide 77 = .ok (.aload_n 0, 1) := by decide +kernel
theorem dX3_divide_78 : decode cX3_divide 78 = .ok (.aload_n 1, 1) := by decide +kernel
theorem dX3_divide_79 : decode cX3_divide 79 = .ok (.aload 4, 2) := by decide +kernel
theorem dX3_divide_81 : decode cX3_divide 81 = .ok (.iload 5, 2) := by decide +kernel
theorem dX3_divide_83 : decode cX3_divide 83 = .ok (.iload_n 2, 1) := by decide +kernel
theorem dX3_divide_84 : decode cX3_divide 84 = .ok (.invokevirtual 65, 3) := by decide +kernel
theorem dX3_divide_87 : decode cX3_divide 87 = .ok (.istore_n 2, 1) := by decide +kernel
theorem dX3_divide_88 : decode cX3_divide 88 = .ok (.goto (-46), 3) := by decide +kernel
theorem dX3_divide_91 : decode cX3_divide 91 = .ok (.iinc 3 1, 3) := by decide +kernel
theorem dX3_divide_94 : decode cX3_divide 94 = .ok (.goto (-90), 3) := by decide +kernel
theorem dX3_divide_97 : decode cX3_divide 97 = .ok (.return_, 1) := by decide +kernel
theorem dX3_viableCount_0 : decode cX3_viableCount 0 = .ok (.aload_n 0, 1) := by decide +kernel
theorem dX3_viableCount_1 : decode cX3_viableCount 1 = .ok (.iconst 1, 1) := by decide +kernel
theorem dX3_viableCount_2 : decode cX3_viableCount 2 = .ok (.putfield 69, 3) := by decide +kernel
theorem dX3_viableCount_5 : decode cX3_viableCount 5 = .ok (.iconst 1, 1) := by decide +kernel
theorem dX3_viableCount_6 : decode cX3_viableCount 6 = .ok (.istore_n 2, 1) := by decide +kernel
theorem dX3_viableCount_7 : decode cX3_viableCount 7 = .ok (.iconst 0, 1) := by decide +kernel
theorem dX3_viableCount_8 : decode cX3_viableCount 8 = .ok (.istore_n 3, 1) := by decide +kernel
theorem dX3_viableCount_9 : decode cX3_viableCount 9 = .ok (.iload_n 3, 1) := by decide +kernel
theorem dX3_viableCount_10 : decode cX3_viableCount 10 = .ok (.aload_n 0, 1) := by decide +kernel
theorem dX3_viableCount_11 : decode cX3_viableCount 11 = .ok (.getfield 24, 3) := by decide +kernel
theorem dX3_viableCount_14 : decode cX3_viableCount 14 = .ok (.invokevirtual 32, 3) := by decide +kernel
theorem dX3_viableCount_17 : decode cX3_viableCount 17 = .ok (.if_icmp .ge 23, 3) := by decide +kernel
theorem dX3_viableCount_20 : decode cX3_viableCount 20 = .ok (.aload_n 0, 1) := by decide +kernel
theorem dX3_viableCount_21 : decode cX3_viableCount 21 = .ok (.aload_n 0, 1) := by decide +kernel
theorem dX3_viableCount_22 : decode cX3_viableCount 22 = .ok (.getfield 24, 3) := by decide +kernel
theorem dX3_viableCount_25 : decode cX3_viableCount 25 = .ok (.iload_n 3, 1) := by decide +kernel
theorem dX3_viableCount_26 : decode cX3_viableCount 26 = .ok (.invokevirtual 43, 3) := by decide +kernel
theorem dX3_viableCount_29 : decode cX3_viableCount 29 = .ok (.iload_n 2, 1) := by decide +kernel
theorem dX3_viableCount_30 : decode cX3_viableCount 30 = .ok (.invokevirtual 72, 3) := by decide +kernel
theorem dX3_viableCount_33 : decode cX3_viableCount 33 = .ok (.istore_n 2, 1) := by decide +kernel
theorem dX3_viableCount_34 : decode cX3_viableCount 34 = .ok (.iinc 3 1, 3) := by decide +kernel
theorem dX3_viableCount_37 : decode cX3_viableCount 37 = .ok (.goto (-28), 3) := by decide +kernel
theorem dX3_viableCount_40 : decode cX3_viableCount 40 = .ok (.iconst 0, 1) := by decide +kernel
theorem dX3_viableCount_41 : decode cX3_viableCount 41 = .ok (.istore_n 3, 1) := by decide +kernel
theorem dX3_viableCount_42 : decode cX3_viableCount 42 = .ok (.iload_n 3, 1) := by decide +kernel
theorem dX3_viableCount_43 : decode cX3_viableCount 43 = .ok (.aload_n 1, 1) := by decide +kernel
theorem dX3_viableCount_44 : decode cX3_viableCount 44 = .ok (.invokevirtual 38, 3) := by decide +kernel
theorem dX3_viableCount_47 : decode cX3_viableCount 47 = .ok (.if_icmp .ge 22, 3) := by decide +kernel
theorem dX3_viableCount_50 : decode cX3_viableCount 50 = .ok (.aload_n 0, 1) := by decide +kernel
theorem dX3_viableCount_51 : decode cX3_viableCount 51 = .ok (.getfield 69, 3) := by decide +kernel
theorem dX3_viableCount_54 : decode cX3_viableCount 54 = .ok (.iload_n 3, 1) := by decide +kernel
theorem dX3_viableCount_55 : decode cX3_viableCount 55 = .ok (.iconst 1, 1) := by decide +kernel
theorem dX3_viableCount_56 : decode cX3_viableCount 56 = .ok (.iadd, 1) := by decide +kernel
theorem dX3_viableCount_57 : decode cX3_viableCount 57 = .ok (.invokestatic 51, 3) := by decide +kernel
theorem dX3_viableCount_60 : decode cX3_viableCount 60 = .ok (.ifCond .eq 9, 3) := by decide +kernel
theorem dX3_viableCount_63 : decode cX3_viableCount 63 = .ok (.iinc 3 1, 3) := by decide +kernel
theorem dX3_viableCount_66 : decode cX3_viableCount 66 = .ok (.goto (-24), 3) := by decide +kernel
theorem dX3_viableCount_69 : decode cX3_viableCount 69 = .ok (.iload_n 3, 1) := by decide +kernel
theorem dX3_viableCount_70 : decode cX3_viableCount 70 = .ok (.ireturn, 1) := by decide +kernel
theorem dX3_findMarks_0 : decode cX3_findMarks 0 = .ok (.iconst 0, 1) := by decide +kernel
theorem dX3_findMarks_1 : decode cX3_findMarks 1 = .ok (.istore_n 2, 1) := by decide +kernel
theorem dX3_findMarks_2 : decode cX3_findMarks 2 = .ok (.iload_n 2, 1) := by decide +kernel
theorem dX3_findMarks_3 : decode cX3_findMarks 3 = .ok (.aload_n 0, 1) := by decide +kernel
theorem dX3_findMarks_4 : decode cX3_findMarks 4 = .ok (.getfield 24, 3) := by decide +kernel
theorem dX3_findMarks_7 : decode cX3_findMarks 7 = .ok (.invokevirtual 75, 3) := by decide +kernel
theorem dX3_findMarks_10 : decode cX3_findMarks 10 = .ok (.if_icmp .ge 66, 3) := by decide +kernel
theorem dX3_findMarks_13 : decode cX3_findMarks 13 = .ok (.iconst 0, 1) := by decide +kernel
theorem dX3_findMarks_14 : decode cX3_findMarks 14 = .ok (.istore_n 3, 1) := by decide +kernel
theorem dX3_findMarks_15 : decode cX3_findMarks 15 = .ok (.iconst 0, 1) := by decide +kernel
theorem dX3_findMarks_16 : decode cX3_findMarks 16 = .ok (.istore 4, 2) := by decide +kernel
theorem dX3_findMarks_18 : decode cX3_findMarks 18 = .ok (.iload 4, 2) := by decide +kernel
theorem dX3_findMarks_20 : decode cX3_findMarks 20 = .ok (.aload_n 1, 1) := by decide +kernel
theorem dX3_findMarks_21 : decode cX3_findMarks 21 = .ok (.invokevirtual 38, 3) := by decide +kernel
theorem dX3_findMarks_24 : decode cX3_findMarks 24 = .ok (.if_icmp .ge 39, 3) := by decide +kernel
theorem dX3_findMarks_27 : decode cX3_findMarks 27 = .ok (.aload_n 1, 1) := by decide +kernel
theorem dX3_findMarks_28 : decode cX3_findMarks 28 = .ok (.iload 4, 2) := by decide +kernel
theorem dX3_findMarks_30 : decode cX3_findMarks 30 = .ok (.invokevirtual 78, 3) := by decide +kernel
theorem dX3_findMarks_33 : decode cX3_findMarks 33 = .ok (.invokevirtual 82, 3) := by decide +kernel
theorem dX3_findMarks_36 : decode cX3_findMarks 36 = .ok (.aload_n 0, 1) := by decide +kernel
theorem dX3_findMarks_37 : decode cX3_findMarks 37 = .ok (.getfield 24, 3) := by decide +kernel
theorem dX3_findMarks_40 : decode cX3_findMarks 40 = .ok (.iload_n 2, 1) := by decide +kernel
theorem dX3_findMarks_41 : decode cX3_findMarks 41 = .ok (.invokevirtual 88, 3) := by decide +kernel
theorem dX3_findMarks_44 : decode cX3_findMarks 44 = .ok (.getfield 92, 3) := by decide +kernel
theorem dX3_findMarks_47 : decode cX3_findMarks 47 = .ok (.if_icmp .ne 10, 3) := by decide +kernel
theorem dX3_findMarks_50 : decode cX3_findMarks 50 = .ok (.iload_n 3, 1) := by decide +kernel
theorem dX3_findMarks_51 : decode cX3_findMarks 51 = .ok (.iconst 1, 1) := by decide +kernel
theorem dX3_findMarks_52 : decode cX3_findMarks 52 = .ok (.iload 4, 2) := by decide +kernel
theorem dX3_findMarks_54 : decode cX3_findMarks 54 = .ok (.ishl, 1) := by decide +kernel
theorem dX3_findMarks_55 : decode cX3_findMarks 55 = .ok (.ior, 1) := by decide +kernel
theorem dX3_findMarks_56 : decode cX3_findMarks 56 = .ok (.istore_n 3, 1) := by decide +kernel
theorem dX3_findMarks_57 : decode cX3_findMarks 57 = .ok (.iinc 4 1, 3) := by decide +kernel
theorem dX3_findMarks_60 : decode cX3_findMarks 60 = .ok (.goto (-42), 3) := by decide +kernel
theorem dX3_findMarks_63 : decode cX3_findMarks 63 = .ok (.aload_n 0, 1) := by decide +kernel
theorem dX3_findMarks_64 : decode cX3_findMarks 64 = .ok (.getfield 9, 3) := by decide +kernel
theorem dX3_findMarks_67 : decode cX3_findMarks 67 = .ok (.iload_n 2, 1) := by decide +kernel
theorem dX3_findMarks_68 : decode cX3_findMarks 68 = .ok (.iload_n 3, 1) := by decide +kernel
theorem dX3_findMarks_69 : decode cX3_findMarks 69 = .ok (.iastore, 1) := by decide +kernel
theorem dX3_findMarks_70 : decode cX3_findMarks 70 = .ok (.iinc 2 1, 3) := by decide +kernel
theorem dX3_findMarks_73 : decode cX3_findMarks 73 = .ok (.goto (-71), 3) := by decide +kernel
theorem dX3_findMarks_76 : decode cX3_findMarks 76 = .ok (.return_, 1) := by decide +kernel
theorem dX3_contains_0 : decode cX3_contains 0 = .ok (.iload_n 0, 1) := by decide +kernel
theorem dX3_contains_1 : decode cX3_contains 1 = .ok (.iload_n 1, 1) := by decide +kernel
theorem dX3_contains_2 : decode cX3_contains 2 = .ok (.ishr, 1) := by decide +kernel
theorem dX3_contains_3 : decode cX3_contains 3 = .ok (.iconst 1, 1) := by decide +kernel
theorem dX3_contains_4 : decode cX3_contains 4 = .ok (.iand, 1) := by decide +kernel
theorem dX3_contains_5 : decode cX3_contains 5 = .ok (.iconst 1, 1) := by decide +kernel
theorem dX3_contains_6 : decode cX3_contains 6 = .ok (.if_icmp .ne 7, 3) := by decide +kernel
theorem dX3_contains_9 : decode cX3_contains 9 = .ok (.iconst 1, 1) := by decide +kernel
theorem dX3_contains_10 : decode cX3_contains 10 = .ok (.goto 4, 3) := by decide +kernel
theorem dX3_contains_13 : decode cX3_contains 13 = .ok (.iconst 0, 1) := by decide +kernel
theorem dX3_contains_14 : decode cX3_contains 14 = .ok (.ireturn, 1) := by decide +kernel
theorem dX3_findAfters_0 : decode cX3_findAfters 0 = .ok (.aload_n 0, 1) := by decide +kernel
theorem dX3_findAfters_1 : decode cX3_findAfters 1 = .ok (.getfield 18, 3) := by decide +kernel
theorem dX3_findAfters_4 : decode cX3_findAfters 4 = .ok (.aload_n 1, 1) := by decide +kernel
theorem dX3_findAfters_5 : decode cX3_findAfters 5 = .ok (.getfield 55, 3) := by decide +kernel
theorem dX3_findAfters_8 : decode cX3_findAfters 8 = .ok (.iload_n 2, 1) := by decide +kernel
theorem dX3_findAfters_9 : decode cX3_findAfters 9 = .ok (.iastore, 1) := by decide +kernel
theorem dX3_findAfters_10 : decode cX3_findAfters 10 = .ok (.aload_n 1, 1) := by decide +kernel
theorem dX3_findAfters_11 : decode cX3_findAfters 11 = .ok (.getfield 55, 3) := by decide +kernel
theorem dX3_findAfters_14 : decode cX3_findAfters 14 = .ok (.iconst 1, 1) := by decide +kernel
theorem dX3_findAfters_15 : decode cX3_findAfters 15 = .ok (.isub, 1) := by decide +kernel
theorem dX3_findAfters_16 : decode cX3_findAfters 16 = .ok (.istore_n 3, 1) := by decide +kernel
theorem dX3_findAfters_17 : decode cX3_findAfters 17 = .ok (.iload_n 3, 1) := by decide +kernel
theorem dX3_findAfters_18 : decode cX3_findAfters 18 = .ok (.ifCond .lt 47, 3) := by decide +kernel
theorem dX3_findAfters_21 : decode cX3_findAfters 21 = .ok (.aload_n 0, 1) := by decide +kernel
theorem dX3_findAfters_22 : decode cX3_findAfters 22 = .ok (.aload_n 1, 1) := by decide +kernel
theorem dX3_findAfters_23 : decode cX3_findAfters 23 = .ok (.aload_n 0, 1) := by decide +kernel
theorem dX3_findAfters_24 : decode cX3_findAfters 24 = .ok (.getfield 18, 3) := by decide +kernel
theorem dX3_findAfters_27 : decode cX3_findAfters 27 = .ok (.iload_n 3, 1) := by decide +kernel
theorem dX3_findAfters_28 : decode cX3_findAfters 28 = .ok (.iconst 1, 1) := by decide +kernel
theorem dX3_findAfters_29 : decode cX3_findAfters 29 = .ok (.iadd, 1) := by decide +kernel
theorem dX3_findAfters_30 : decode cX3_findAfters 30 = .ok (.iaload, 1) := by decide +kernel
theorem dX3_findAfters_31 : decode cX3_findAfters 31 = .ok (.invokevirtual 61, 3) := by decide +kernel
theorem dX3_findAfters_34 : decode cX3_findAfters 34 = .ok (.istore 4, 2) := by decide +kernel
theorem dX3_findAfters_36 : decode cX3_findAfters 36 = .ok (.aload_n 0, 1) := by decide +kernel
theorem dX3_findAfters_37 : decode cX3_findAfters 37 = .ok (.getfield 18, 3) := by decide +kernel
theorem dX3_findAfters_40 : decode cX3_findAfters 40 = .ok (.iload_n 3, 1) := by decide +kernel
theorem dX3_findAfters_41 : decode cX3_findAfters 41 = .ok (.iload_n 3, 1) := by decide +kernel
theorem dX3_findAfters_42 : decode cX3_findAfters 42 = .ok (.aload_n 1, 1) := by decide +kernel
theorem dX3_findAfters_43 : decode cX3_findAfters 43 = .ok (.getfield 97, 3) := by decide +kernel
theorem dX3_findAfters_46 : decode cX3_findAfters 46 = .ok (.if_icmp .lt 10, 3) := by decide +kernel
theorem dX3_findAfters_49 : decode cX3_findAfters 49 = .ok (.iload 4, 2) := by decide +kernel
theorem dX3_findAfters_51 : decode cX3_findAfters 51 = .ok (.iload_n 2, 1) := by decide +kernel
theorem dX3_findAfters_52 : decode cX3_findAfters 52 = .ok (.ior, 1) := by decide +kernel
theorem dX3_findAfters_53 : decode cX3_findAfters 53 = .ok (.goto 5, 3) := by decide +kernel
theorem dX3_findAfters_56 : decode cX3_findAfters 56 = .ok (.iload 4, 2) := by decide +kernel
theorem dX3_findAfters_58 : decode cX3_findAfters 58 = .ok (.iastore, 1) := by decide +kernel
theorem dX3_findAfters_59 : decode cX3_findAfters 59 = .ok (.iinc 3 (-1), 3) := by decide +kernel
theorem dX3_findAfters_62 : decode cX3_findAfters 62 = .ok (.goto (-45), 3) := by decide +kernel
theorem dX3_findAfters_65 : decode cX3_findAfters 65 = .ok (.return_, 1) := by decide +kernel
theorem dX3_placesBeforePass_0 : decode cX3_placesBeforePass 0 = .ok (.iconst 0, 1) := by decide +kernel
theorem dX3_placesBeforePass_1 : decode cX3_placesBeforePass 1 = .ok (.istore_n 3, 1) := by decide +kernel
theorem dX3_placesBeforePass_2 : decode cX3_placesBeforePass 2 = .ok (.aload_n 0, 1) := by decide +kernel
theorem dX3_placesBeforePass_3 : decode cX3_placesBeforePass 3 = .ok (.getfield 21, 3) := by decide +kernel
theorem dX3_placesBeforePass_6 : decode cX3_placesBeforePass 6 = .ok (.aload_n 1, 1) := by decide +kernel
theorem dX3_placesBeforePass_7 : decode cX3_placesBeforePass 7 = .ok (.getfield 100, 3) := by decide +kernel
theorem dX3_placesBeforePass_10 : decode cX3_placesBeforePass 10 = .ok (.iload_n 2, 1) := by decide +kernel
theorem dX3_placesBeforePass_11 : decode cX3_placesBeforePass 11 = .ok (.iastore, 1) := by decide +kernel
theorem dX3_placesBeforePass_12 : decode cX3_placesBeforePass 12 = .ok (.aload_n 1, 1) := by decide +kernel
theorem dX3_placesBeforePass_13 : decode cX3_placesBeforePass 13 = .ok (.getfield 100, 3) := by decide +kernel
theorem dX3_placesBeforePass_16 : decode cX3_placesBeforePass 16 = .ok (.iconst 1, 1) := by decide +kernel
theorem dX3_placesBeforePass_17 : decode cX3_placesBeforePass 17 = .ok (.isub, 1) := by decide +kernel
theorem dX3_placesBeforePass_18 : decode cX3_placesBeforePass 18 = .ok (.istore 4, 2) := by decide +kernel
theorem dX3_placesBeforePass_20 : decode cX3_placesBeforePass 20 = .ok (.iload 4, 2) := by decide +kernel
theorem dX3_placesBeforePass_22 : decode cX3_placesBeforePass 22 = .ok (.aload_n 1, 1) := by decide +kernel
theorem dX3_placesBeforePass_23 : decode cX3_placesBeforePass 23 = .ok (.getfield 103, 3) := by decide +kernel
theorem dX3_placesBeforePass_26 : decode cX3_placesBeforePass 26 = .ok (.if_icmp .lt 110, 3) := by decide +kernel
theorem dX3_placesBeforePass_29 : decode cX3_placesBeforePass 29 = .ok (.aload_n 0, 1) := by decide +kernel
theorem dX3_placesBeforePass_30 : decode cX3_placesBeforePass 30 = .ok (.getfield 24, 3) := by decide +kernel
theorem dX3_placesBeforePass_33 : decode cX3_placesBeforePass 33 = .ok (.iload 4, 2) := by decide +kernel
theorem dX3_placesBeforePass_35 : decode cX3_placesBeforePass 35 = .ok (.invokevirtual 88, 3) := by decide +kernel
theorem dX3_placesBeforePass_38 : decode cX3_placesBeforePass 38 = .ok (.astore 5, 2) := by decide +kernel
theorem dX3_placesBeforePass_40 : decode cX3_placesBeforePass 40 = .ok (.aload_n 0, 1) := by decide +kernel
theorem dX3_placesBeforePass_41 : decode cX3_placesBeforePass 41 = .ok (.iload 4, 2) := by decide +kernel
theorem dX3_placesBeforePass_43 : decode cX3_placesBeforePass 43 = .ok (.aload 5, 2) := by decide +kernel
theorem dX3_placesBeforePass_45 : decode cX3_placesBeforePass 45 = .ok (.getfield 106, 3) := by decide +kernel
theorem dX3_placesBeforePass_48 : decode cX3_placesBeforePass 48 = .ok (.iconst 1, 1) := by decide +kernel
theorem dX3_placesBeforePass_49 : decode cX3_placesBeforePass 49 = .ok (.invokestatic 107, 3) := by decide +kernel
theorem dX3_placesBeforePass_52 : decode cX3_placesBeforePass 52 = .ok (.aload 5, 2) := by decide +kernel
theorem dX3_placesBeforePass_54 : decode cX3_placesBeforePass 54 = .ok (.getfield 113, 3) := by decide +kernel
theorem dX3_placesBeforePass_57 : decode cX3_placesBeforePass 57 = .ok (.aload_n 0, 1) := by decide +kernel
theorem dX3_placesBeforePass_58 : decode cX3_placesBeforePass 58 = .ok (.getfield 21, 3) := by decide +kernel
theorem dX3_placesBeforePass_61 : decode cX3_placesBeforePass 61 = .ok (.iload 4, 2) := by decide +kernel
theorem dX3_placesBeforePass_63 : decode cX3_placesBeforePass 63 = .ok (.iconst 1, 1) := by decide +kernel
theorem dX3_placesBeforePass_64 : decode cX3_placesBeforePass 64 = .ok (.iadd, 1) := by decide +kernel
theorem dX3_placesBeforePass_65 : decode cX3_placesBeforePass 65 = .ok (.iaload, 1) := by decide +kernel
theorem dX3_placesBeforePass_66 : decode cX3_placesBeforePass 66 = .ok (.invokevirtual 114, 3) := by decide +kernel
theorem dX3_placesBeforePass_69 : decode cX3_placesBeforePass 69 = .ok (.istore 6, 2) := by decide +kernel
theorem dX3_placesBeforePass_71 : decode cX3_placesBeforePass 71 = .ok (.aload 5, 2) := by decide +kernel
theorem dX3_placesBeforePass_73 : decode cX3_placesBeforePass 73 = .ok (.getfield 106, 3) := by decide +kernel
theorem dX3_placesBeforePass_76 : decode cX3_placesBeforePass 76 = .ok (.ifCond .ne 7, 3) := by decide +kernel
theorem dX3_placesBeforePass_79 : decode cX3_placesBeforePass 79 = .ok (.iconst 1, 1) := by decide +kernel
theorem dX3_placesBeforePass_80 : decode cX3_placesBeforePass 80 = .ok (.goto 4, 3) := by decide +kernel
theorem dX3_placesBeforePass_83 : decode cX3_placesBeforePass 83 = .ok (.iconst 0, 1) := by decide +kernel
theorem dX3_placesBeforePass_84 : decode cX3_placesBeforePass 84 = .ok (.istore 7, 2) := by decide +kernel
theorem dX3_placesBeforePass_86 : decode cX3_placesBeforePass 86 = .ok (.aload_n 0, 1) := by decide +kernel
theorem dX3_placesBeforePass_87 : decode cX3_placesBeforePass 87 = .ok (.getfield 21, 3) := by decide +kernel
theorem dX3_placesBeforePass_90 : decode cX3_placesBeforePass 90 = .ok (.iload 4, 2) := by decide +kernel
theorem dX3_placesBeforePass_92 : decode cX3_placesBeforePass 92 = .ok (.iload 7, 2) := by decide +kernel
theorem dX3_placesBeforePass_94 : decode cX3_placesBeforePass 94 = .ok (.ifCond .eq 18, 3) := by decide +kernel
theorem dX3_placesBeforePass_97 : decode cX3_placesBeforePass 97 = .ok (.iload 6, 2) := by decide +kernel
theorem dX3_placesBeforePass_99 : decode cX3_placesBeforePass 99 = .ok (.aload_n 0, 1) := by decide +kernel
theorem dX3_placesBeforePass_100 : decode cX3_placesBeforePass 100 = .ok (.getfield 21, 3) := by decide +kernel
theorem dX3_placesBeforePass_103 : decode cX3_placesBeforePass 103 = .ok (.iload 4, 2) := by decide +kernel
theorem dX3_placesBeforePass_105 : decode cX3_placesBeforePass 105 = .ok (.iconst 1, 1) := by decide +kernel
theorem dX3_placesBeforePass_106 : decode cX3_placesBeforePass 106 = .ok (.iadd, 1) := by decide +kernel
theorem dX3_placesBeforePass_107 : decode cX3_placesBeforePass 107 = .ok (.iaload, 1) := by decide +kernel
theorem dX3_placesBeforePass_108 : decode cX3_placesBeforePass 108 = .ok (.ior, 1) := by decide +kernel
theorem dX3_placesBeforePass_109 : decode cX3_placesBeforePass 109 = .ok (.goto 5, 3) := by decide +kernel
theorem dX3_placesBeforePass_112 : decode cX3_placesBeforePass 112 = .ok (.iload 6, 2) := by decide +kernel
theorem dX3_placesBeforePass_114 : decode cX3_placesBeforePass 114 = .ok (.iastore, 1) := by decide +kernel
theorem dX3_placesBeforePass_115 : decode cX3_placesBeforePass 115 = .ok (.iload 7, 2) := by decide +kernel
theorem dX3_placesBeforePass_117 : decode cX3_placesBeforePass 117 = .ok (.ifCond .eq 10, 3) := by decide +kernel
theorem dX3_placesBeforePass_120 : decode cX3_placesBeforePass 120 = .ok (.iload 6, 2) := by decide +kernel
theorem dX3_placesBeforePass_122 : decode cX3_placesBeforePass 122 = .ok (.iload_n 3, 1) := by decide +kernel
theorem dX3_placesBeforePass_123 : decode cX3_placesBeforePass 123 = .ok (.ior, 1) := by decide +kernel
theorem dX3_placesBeforePass_124 : decode cX3_placesBeforePass 124 = .ok (.goto 5, 3) := by decide +kernel
theorem dX3_placesBeforePass_127 : decode cX3_placesBeforePass 127 = .ok (.iload 6, 2) := by decide +kernel
theorem dX3_placesBeforePass_129 : decode cX3_placesBeforePass 129 = .ok (.istore_n 3, 1) := by decide +kernel
theorem dX3_placesBeforePass_130 : decode cX3_placesBeforePass 130 = .ok (.iinc 4 (-1), 3) := by decide +kernel
theorem dX3_placesBeforePass_133 : decode cX3_placesBeforePass 133 = .ok (.goto (-113), 3) := by decide +kernel
theorem dX3_placesBeforePass_136 : decode cX3_placesBeforePass 136 = .ok (.iload_n 3, 1) := by decide +kernel
theorem dX3_placesBeforePass_137 : decode cX3_placesBeforePass 137 = .ok (.ireturn, 1) := by decide +kernel
theorem dX3_placesBeforeItem_0 : decode cX3_placesBeforeItem 0 = .ok (.iconst 0, 1) := by decide +kernel
theorem dX3_placesBeforeItem_1 : decode cX3_placesBeforeItem 1 = .ok (.istore 5, 2) := by decide +kernel
theorem dX3_placesBeforeItem_3 : decode cX3_placesBeforeItem 3 = .ok (.iload 4, 2) := by decide +kernel
theorem dX3_placesBeforeItem_5 : decode cX3_placesBeforeItem 5 = .ok (.istore 6, 2) := by decide +kernel
theorem dX3_placesBeforeItem_7 : decode cX3_placesBeforeItem 7 = .ok (.iconst 0, 1) := by decide +kernel
theorem dX3_placesBeforeItem_8 : decode cX3_placesBeforeItem 8 = .ok (.istore 7, 2) := by decide +kernel
theorem dX3_placesBeforeItem_10 : decode cX3_placesBeforeItem 10 = .ok (.iload 7, 2) := by decide +kernel
theorem dX3_placesBeforeItem_12 : decode cX3_placesBeforeItem 12 = .ok (.iload_n 3, 1) := by decide +kernel
theorem dX3_placesBeforeItem_13 : decode cX3_placesBeforeItem 13 = .ok (.if_icmp .gt 40, 3) := by decide +kernel
theorem dX3_placesBeforeItem_16 : decode cX3_placesBeforeItem 16 = .ok (.iload 6, 2) := by decide +kernel
theorem dX3_placesBeforeItem_18 : decode cX3_placesBeforeItem 18 = .ok (.ifCond .eq 35, 3) := by decide +kernel
theorem dX3_placesBeforeItem_21 : decode cX3_placesBeforeItem 21 = .ok (.iload 7, 2) := by decide +kernel
theorem dX3_placesBeforeItem_23 : decode cX3_placesBeforeItem 23 = .ok (.iload_n 2, 1) := by decide +kernel
theorem dX3_placesBeforeItem_24 : decode cX3_placesBeforeItem 24 = .ok (.if_icmp .lt 10, 3) := by decide +kernel
theorem dX3_placesBeforeItem_27 : decode cX3_placesBeforeItem 27 = .ok (.iload 5, 2) := by decide +kernel
theorem dX3_placesBeforeItem_29 : decode cX3_placesBeforeItem 29 = .ok (.iload 6, 2) := by decide +kernel
theorem dX3_placesBeforeItem_31 : decode cX3_placesBeforeItem 31 = .ok (.ior, 1) := by decide +kernel
theorem dX3_placesBeforeItem_32 : decode cX3_placesBeforeItem 32 = .ok (.istore 5, 2) := by decide +kernel
theorem dX3_placesBeforeItem_34 : decode cX3_placesBeforeItem 34 = .ok (.iload 6, 2) := by decide +kernel
theorem dX3_placesBeforeItem_36 : decode cX3_placesBeforeItem 36 = .ok (.iconst 1, 1) := by decide +kernel
theorem dX3_placesBeforeItem_37 : decode cX3_placesBeforeItem 37 = .ok (.ishr, 1) := by decide +kernel
theorem dX3_placesBeforeItem_38 : decode cX3_placesBeforeItem 38 = .ok (.aload_n 0, 1) := by decide +kernel
theorem dX3_placesBeforeItem_39 : decode cX3_placesBeforeItem 39 = .ok (.getfield 9, 3) := by decide +kernel
theorem dX3_placesBeforeItem_42 : decode cX3_placesBeforeItem 42 = .ok (.iload_n 1, 1) := by decide +kernel
theorem dX3_placesBeforeItem_43 : decode cX3_placesBeforeItem 43 = .ok (.iaload, 1) := by decide +kernel
theorem dX3_placesBeforeItem_44 : decode cX3_placesBeforeItem 44 = .ok (.iand, 1) := by decide +kernel
theorem dX3_placesBeforeItem_45 : decode cX3_placesBeforeItem 45 = .ok (.istore 6, 2) := by decide +kernel
theorem dX3_placesBeforeItem_47 : decode cX3_placesBeforeItem 47 = .ok (.iinc 7 1, 3) := by decide +kernel
theorem dX3_placesBeforeItem_50 : decode cX3_placesBeforeItem 50 = .ok (.goto (-40), 3) := by decide +kernel
theorem dX3_placesBeforeItem_53 : decode cX3_placesBeforeItem 53 = .ok (.iload 5, 2) := by decide +kernel
theorem dX3_placesBeforeItem_55 : decode cX3_placesBeforeItem 55 = .ok (.ireturn, 1) := by decide +kernel
theorem dX3_dividePass_0 : decode cX3_dividePass 0 = .ok (.iload 4, 2) := by decide +kernel
theorem dX3_dividePass_2 : decode cX3_dividePass 2 = .ok (.istore 5, 2) := by decide +kernel
theorem dX3_dividePass_4 : decode cX3_dividePass 4 = .ok (.aload_n 2, 1) := by decide +kernel
theorem dX3_dividePass_5 : decode cX3_dividePass 5 = .ok (.getfield 103, 3) := by decide +kernel
theorem dX3_dividePass_8 : decode cX3_dividePass 8 = .ok (.istore 6, 2) := by decide +kernel
theorem dX3_dividePass_10 : decode cX3_dividePass 10 = .ok (.iload 6, 2) := by decide +kernel
theorem dX3_dividePass_12 : decode cX3_dividePass 12 = .ok (.aload_n 2, 1) := by decide +kernel
theorem dX3_dividePass_13 : decode cX3_dividePass 13 = .ok (.getfield 100, 3) := by decide +kernel
theorem dX3_dividePass_16 : decode cX3_dividePass 16 = .ok (.if_icmp .ge 69, 3) := by decide +kernel
theorem dX3_dividePass_19 : decode cX3_dividePass 19 = .ok (.aload_n 0, 1) := by decide +kernel
theorem dX3_dividePass_20 : decode cX3_dividePass 20 = .ok (.iload 6, 2) := by decide +kernel
theorem dX3_dividePass_22 : decode cX3_dividePass 22 = .ok (.iload 5, 2) := by decide +kernel
theorem dX3_dividePass_24 : decode cX3_dividePass 24 = .ok (.invokevirtual 118, 3) := by decide +kernel
theorem dX3_dividePass_27 : decode cX3_dividePass 27 = .ok (.istore 7, 2) := by decide +kernel
theorem dX3_dividePass_29 : decode cX3_dividePass 29 = .ok (.iload 5, 2) := by decide +kernel
theorem dX3_dividePass_31 : decode cX3_dividePass 31 = .ok (.istore 8, 2) := by decide +kernel
theorem dX3_dividePass_33 : decode cX3_dividePass 33 = .ok (.iload 8, 2) := by decide +kernel
theorem dX3_dividePass_35 : decode cX3_dividePass 35 = .ok (.iload 5, 2) := by decide +kernel
theorem dX3_dividePass_37 : decode cX3_dividePass 37 = .ok (.iload 7, 2) := by decide +kernel
theorem dX3_dividePass_39 : decode cX3_dividePass 39 = .ok (.iadd, 1) := by decide +kernel
theorem dX3_dividePass_40 : decode cX3_dividePass 40 = .ok (.if_icmp .ge 32, 3) := by decide +kernel
theorem dX3_dividePass_43 : decode cX3_dividePass 43 = .ok (.aload_n 1, 1) := by decide +kernel
theorem dX3_dividePass_44 : decode cX3_dividePass 44 = .ok (.iload 8, 2) := by decide +kernel
theorem dX3_dividePass_46 : decode cX3_dividePass 46 = .ok (.invokevirtual 78, 3) := by decide +kernel
theorem dX3_dividePass_49 : decode cX3_dividePass 49 = .ok (.iload 6, 2) := by decide +kernel
theorem dX3_dividePass_51 : decode cX3_dividePass 51 = .ok (.aload_n 2, 1) := by decide +kernel
theorem dX3_dividePass_52 : decode cX3_dividePass 52 = .ok (.getfield 121, 3) := by decide +kernel
theorem dX3_dividePass_55 : decode cX3_dividePass 55 = .ok (.ifCond .eq 7, 3) := by decide +kernel
theorem dX3_dividePass_58 : decode cX3_dividePass 58 = .ok (.iload_n 3, 1) := by decide +kernel
theorem dX3_dividePass_59 : decode cX3_dividePass 59 = .ok (.goto 4, 3) := by decide +kernel
theorem dX3_dividePass_62 : decode cX3_dividePass 62 = .ok (.iconst 0, 1) := by decide +kernel
theorem dX3_dividePass_63 : decode cX3_dividePass 63 = .ok (.invokevirtual 125, 3) := by decide +kernel
theorem dX3_dividePass_66 : decode cX3_dividePass 66 = .ok (.iinc 8 1, 3) := by decide +kernel
theorem dX3_dividePass_69 : decode cX3_dividePass 69 = .ok (.goto (-36), 3) := by decide +kernel
theorem dX3_dividePass_72 : decode cX3_dividePass 72 = .ok (.iload 5, 2) := by decide +kernel
theorem dX3_dividePass_74 : decode cX3_dividePass 74 = .ok (.iload 7, 2) := by decide +kernel
theorem dX3_dividePass_76 : decode cX3_dividePass 76 = .ok (.iadd, 1) := by decide +kernel
theorem dX3_dividePass_77 : decode cX3_dividePass 77 = .ok (.istore 5, 2) := by decide +kernel
theorem dX3_dividePass_79 : decode cX3_dividePass 79 = .ok (.iinc 6 1, 3) := by decide +kernel
theorem dX3_dividePass_82 : decode cX3_dividePass 82 = .ok (.goto (-72), 3) := by decide +kernel
theorem dX3_dividePass_85 : decode cX3_dividePass 85 = .ok (.iload 5, 2) := by decide +kernel
theorem dX3_dividePass_87 : decode cX3_dividePass 87 = .ok (.ireturn, 1) := by decide +kernel
theorem dX3_greatestTimes_0 : decode cX3_greatestTimes 0 = .ok (.aload_n 0, 1) := by decide +kernel
theorem dX3_greatestTimes_1 : decode cX3_greatestTimes 1 = .ok (.getfield 24, 3) := by decide +kernel
theorem dX3_greatestTimes_4 : decode cX3_greatestTimes 4 = .ok (.iload_n 1, 1) := by decide +kernel
theorem dX3_greatestTimes_5 : decode cX3_greatestTimes 5 = .ok (.invokevirtual 88, 3) := by decide +kernel
theorem dX3_greatestTimes_8 : decode cX3_greatestTimes 8 = .ok (.astore_n 3, 1) := by decide +kernel
theorem dX3_greatestTimes_9 : decode cX3_greatestTimes 9 = .ok (.iconst 0, 1) := by decide +kernel
theorem dX3_greatestTimes_10 : decode cX3_greatestTimes 10 = .ok (.istore 4, 2) := by decide +kernel
theorem dX3_greatestTimes_12 : decode cX3_greatestTimes 12 = .ok (.iconst 0, 1) := by decide +kernel
theorem dX3_greatestTimes_13 : decode cX3_greatestTimes 13 = .ok (.istore 5, 2) := by decide +kernel
theorem dX3_greatestTimes_15 : decode cX3_greatestTimes 15 = .ok (.iload 5, 2) := by decide +kernel
theorem dX3_greatestTimes_17 : decode cX3_greatestTimes 17 = .ok (.aload_n 3, 1) := by decide +kernel
theorem dX3_greatestTimes_18 : decode cX3_greatestTimes 18 = .ok (.getfield 113, 3) := by decide +kernel
theorem dX3_greatestTimes_21 : decode cX3_greatestTimes 21 = .ok (.if_icmp .gt 59, 3) := by decide +kernel
theorem dX3_greatestTimes_24 : decode cX3_greatestTimes 24 = .ok (.iload 5, 2) := by decide +kernel
theorem dX3_greatestTimes_26 : decode cX3_greatestTimes 26 = .ok (.aload_n 3, 1) := by decide +kernel
theorem dX3_greatestTimes_27 : decode cX3_greatestTimes 27 = .ok (.getfield 106, 3) := by decide +kernel
theorem dX3_greatestTimes_30 : decode cX3_greatestTimes 30 = .ok (.if_icmp .lt 25, 3) := by decide +kernel
theorem dX3_greatestTimes_33 : decode cX3_greatestTimes 33 = .ok (.aload_n 0, 1) := by decide +kernel
theorem dX3_greatestTimes_34 : decode cX3_greatestTimes 34 = .ok (.getfield 21, 3) := by decide +kernel
theorem dX3_greatestTimes_37 : decode cX3_greatestTimes 37 = .ok (.iload_n 1, 1) := by decide +kernel
theorem dX3_greatestTimes_38 : decode cX3_greatestTimes 38 = .ok (.iconst 1, 1) := by decide +kernel
theorem dX3_greatestTimes_39 : decode cX3_greatestTimes 39 = .ok (.iadd, 1) := by decide +kernel
theorem dX3_greatestTimes_40 : decode cX3_greatestTimes 40 = .ok (.iaload, 1) := by decide +kernel
theorem dX3_greatestTimes_41 : decode cX3_greatestTimes 41 = .ok (.iload_n 2, 1) := by decide +kernel
theorem dX3_greatestTimes_42 : decode cX3_greatestTimes 42 = .ok (.iload 5, 2) := by decide +kernel
theorem dX3_greatestTimes_44 : decode cX3_greatestTimes 44 = .ok (.iadd, 1) := by decide +kernel
theorem dX3_greatestTimes_45 : decode cX3_greatestTimes 45 = .ok (.invokestatic 51, 3) := by decide +kernel
theorem dX3_greatestTimes_48 : decode cX3_greatestTimes 48 = .ok (.ifCond .eq 7, 3) := by decide +kernel
theorem dX3_greatestTimes_51 : decode cX3_greatestTimes 51 = .ok (.iload 5, 2) := by decide +kernel
theorem dX3_greatestTimes_53 : decode cX3_greatestTimes 53 = .ok (.istore 4, 2) := by decide +kernel
theorem dX3_greatestTimes_55 : decode cX3_greatestTimes 55 = .ok (.aload_n 0, 1) := by decide +kernel
theorem dX3_greatestTimes_56 : decode cX3_greatestTimes 56 = .ok (.getfield 9, 3) := by decide +kernel
theorem dX3_greatestTimes_59 : decode cX3_greatestTimes 59 = .ok (.iload_n 1, 1) := by decide +kernel
theorem dX3_greatestTimes_60 : decode cX3_greatestTimes 60 = .ok (.iaload, 1) := by decide +kernel
theorem dX3_greatestTimes_61 : decode cX3_greatestTimes 61 = .ok (.iload_n 2, 1) := by decide +kernel
theorem dX3_greatestTimes_62 : decode cX3_greatestTimes 62 = .ok (.iload 5, 2) := by decide +kernel
theorem dX3_greatestTimes_64 : decode cX3_greatestTimes 64 = .ok (.iadd, 1) := by decide +kernel
theorem dX3_greatestTimes_65 : decode cX3_greatestTimes 65 = .ok (.invokestatic 51, 3) := by decide +kernel
theorem dX3_greatestTimes_68 : decode cX3_greatestTimes 68 = .ok (.ifCond .ne 6, 3) := by decide +kernel
theorem dX3_greatestTimes_71 : decode cX3_greatestTimes 71 = .ok (.goto 9, 3) := by decide +kernel
theorem dX3_greatestTimes_74 : decode cX3_greatestTimes 74 = .ok (.iinc 5 1, 3) := by decide +kernel
theorem dX3_greatestTimes_77 : decode cX3_greatestTimes 77 = .ok (.goto (-62), 3) := by decide +kernel
theorem dX3_greatestTimes_80 : decode cX3_greatestTimes 80 = .ok (.iload 4, 2) := by decide +kernel
theorem dX3_greatestTimes_82 : decode cX3_greatestTimes 82 = .ok (.ireturn, 1) := by decide +kernel
theorem dX3_placesBehindEntry_0 : decode cX3_placesBehindEntry 0 = .ok (.iconst 0, 1) := by decide +kernel
theorem dX3_placesBehindEntry_1 : decode cX3_placesBehindEntry 1 = .ok (.istore_n 3, 1) := by decide +kernel
theorem dX3_placesBehindEntry_2 : decode cX3_placesBehindEntry 2 = .ok (.iload_n 2, 1) := by decide +kernel
theorem dX3_placesBehindEntry_3 : decode cX3_placesBehindEntry 3 = .ok (.istore 4, 2) := by decide +kernel
theorem dX3_placesBehindEntry_5 : decode cX3_placesBehindEntry 5 = .ok (.iconst 0, 1) := by decide +kernel
theorem dX3_placesBehindEntry_6 : decode cX3_placesBehindEntry 6 = .ok (.istore 5, 2) := by decide +kernel
theorem dX3_placesBehindEntry_8 : decode cX3_placesBehindEntry 8 = .ok (.iload 5, 2) := by decide +kernel
theorem dX3_placesBehindEntry_10 : decode cX3_placesBehindEntry 10 = .ok (.aload_n 1, 1) := by decide +kernel
theorem dX3_placesBehindEntry_11 : decode cX3_placesBehindEntry 11 = .ok (.getfield 55, 3) := by decide +kernel
theorem dX3_placesBehindEntry_14 : decode cX3_placesBehindEntry 14 = .ok (.if_icmp .gt 41, 3) := by decide +kernel
theorem dX3_placesBehindEntry_17 : decode cX3_placesBehindEntry 17 = .ok (.iload 5, 2) := by decide +kernel
theorem dX3_placesBehindEntry_19 : decode cX3_placesBehindEntry 19 = .ok (.aload_n 1, 1) := by decide +kernel
theorem dX3_placesBehindEntry_20 : decode cX3_placesBehindEntry 20 = .ok (.getfield 97, 3) := by decide +kernel
theorem dX3_placesBehindEntry_23 : decode cX3_placesBehindEntry 23 = .ok (.if_icmp .lt 8, 3) := by decide +kernel
theorem dX3_placesBehindEntry_26 : decode cX3_placesBehindEntry 26 = .ok (.iload_n 3, 1) := by decide +kernel
theorem dX3_placesBehindEntry_27 : decode cX3_placesBehindEntry 27 = .ok (.iload 4, 2) := by decide +kernel
theorem dX3_placesBehindEntry_29 : decode cX3_placesBehindEntry 29 = .ok (.ior, 1) := by decide +kernel
theorem dX3_placesBehindEntry_30 : decode cX3_placesBehindEntry 30 = .ok (.istore_n 3, 1) := by decide +kernel
theorem dX3_placesBehindEntry_31 : decode cX3_placesBehindEntry 31 = .ok (.iload 5, 2) := by decide +kernel
theorem dX3_placesBehindEntry_33 : decode cX3_placesBehindEntry 33 = .ok (.aload_n 1, 1) := by decide +kernel
theorem dX3_placesBehindEntry_34 : decode cX3_placesBehindEntry 34 = .ok (.getfield 55, 3) := by decide +kernel
theorem dX3_placesBehindEntry_37 : decode cX3_placesBehindEntry 37 = .ok (.if_icmp .ge 12, 3) := by decide +kernel
theorem dX3_placesBehindEntry_40 : decode cX3_placesBehindEntry 40 = .ok (.aload_n 0, 1) := by decide +kernel
theorem dX3_placesBehindEntry_41 : decode cX3_placesBehindEntry 41 = .ok (.aload_n 1, 1) := by decide +kernel
theorem dX3_placesBehindEntry_42 : decode cX3_placesBehindEntry 42 = .ok (.iload 4, 2) := by decide +kernel
theorem dX3_placesBehindEntry_44 : decode cX3_placesBehindEntry 44 = .ok (.invokevirtual 129, 3) := by decide +kernel
theorem dX3_placesBehindEntry_47 : decode cX3_placesBehindEntry 47 = .ok (.istore 4, 2) := by decide +kernel
theorem dX3_placesBehindEntry_49 : decode cX3_placesBehindEntry 49 = .ok (.iinc 5 1, 3) := by decide +kernel
theorem dX3_placesBehindEntry_52 : decode cX3_placesBehindEntry 52 = .ok (.goto (-44), 3) := by decide +kernel
theorem dX3_placesBehindEntry_55 : decode cX3_placesBehindEntry 55 = .ok (.iload_n 3, 1) := by decide +kernel
theorem dX3_placesBehindEntry_56 : decode cX3_placesBehindEntry 56 = .ok (.ireturn, 1) := by decide +kernel
theorem dX3_placesBehindPass_0 : decode cX3_placesBehindPass 0 = .ok (.iload_n 2, 1) := by decide +kernel
theorem dX3_placesBehindPass_1 : decode cX3_placesBehindPass 1 = .ok (.istore_n 3, 1) := by decide +kernel
theorem dX3_placesBehindPass_2 : decode cX3_placesBehindPass 2 = .ok (.iconst 0, 1) := by decide +kernel
theorem dX3_placesBehindPass_3 : decode cX3_placesBehindPass 3 = .ok (.istore 4, 2) := by decide +kernel
theorem dX3_placesBehindPass_5 : decode cX3_placesBehindPass 5 = .ok (.aload_n 1, 1) := by decide +kernel
theorem dX3_placesBehindPass_6 : decode cX3_placesBehindPass 6 = .ok (.getfield 103, 3) := by decide +kernel
theorem dX3_placesBehindPass_9 : decode cX3_placesBehindPass 9 = .ok (.istore 5, 2) := by decide +kernel
theorem dX3_placesBehindPass_11 : decode cX3_placesBehindPass 11 = .ok (.iload 5, 2) := by decide +kernel
theorem dX3_placesBehindPass_13 : decode cX3_placesBehindPass 13 = .ok (.aload_n 1, 1) := by decide +kernel
theorem dX3_placesBehindPass_14 : decode cX3_placesBehindPass 14 = .ok (.getfield 100, 3) := by decide +kernel
theorem dX3_placesBehindPass_17 : decode cX3_placesBehindPass 17 = .ok (.if_icmp .ge 114, 3) := by decide +kernel
theorem dX3_placesBehindPass_20 : decode cX3_placesBehindPass 20 = .ok (.aload_n 0, 1) := by decide +kernel
theorem dX3_placesBehindPass_21 : decode cX3_placesBehindPass 21 = .ok (.getfield 24, 3) := by decide +kernel
theorem dX3_placesBehindPass_24 : decode cX3_placesBehindPass 24 = .ok (.iload 5, 2) := by decide +kernel
theorem dX3_placesBehindPass_26 : decode cX3_placesBehindPass 26 = .ok (.invokevirtual 88, 3) := by decide +kernel
theorem dX3_placesBehindPass_29 : decode cX3_placesBehindPass 29 = .ok (.astore 6, 2) := by decide +kernel
theorem dX3_placesBehindPass_31 : decode cX3_placesBehindPass 31 = .ok (.aload_n 0, 1) := by decide +kernel
theorem dX3_placesBehindPass_32 : decode cX3_placesBehindPass 32 = .ok (.dup, 1) := by decide +kernel
theorem dX3_placesBehindPass_33 : decode cX3_placesBehindPass 33 = .ok (.getfield 69, 3) := by decide +kernel
theorem dX3_placesBehindPass_36 : decode cX3_placesBehindPass 36 = .ok (.aload_n 0, 1) := by decide +kernel
theorem dX3_placesBehindPass_37 : decode cX3_placesBehindPass 37 = .ok (.iload 5, 2) := by decide +kernel
theorem dX3_placesBehindPass_39 : decode cX3_placesBehindPass 39 = .ok (.iconst 1, 1) := by decide +kernel
theorem dX3_placesBehindPass_40 : decode cX3_placesBehindPass 40 = .ok (.aload 6, 2) := by decide +kernel
theorem dX3_placesBehindPass_42 : decode cX3_placesBehindPass 42 = .ok (.getfield 113, 3) := by decide +kernel
theorem dX3_placesBehindPass_45 : decode cX3_placesBehindPass 45 = .ok (.iload_n 3, 1) := by decide +kernel
theorem dX3_placesBehindPass_46 : decode cX3_placesBehindPass 46 = .ok (.iload 4, 2) := by decide +kernel
theorem dX3_placesBehindPass_48 : decode cX3_placesBehindPass 48 = .ok (.ior, 1) := by decide +kernel
theorem dX3_placesBehindPass_49 : decode cX3_placesBehindPass 49 = .ok (.invokevirtual 132, 3) := by decide +kernel
theorem dX3_placesBehindPass_52 : decode cX3_placesBehindPass 52 = .ok (.ior, 1) := by decide +kernel
theorem dX3_placesBehindPass_53 : decode cX3_placesBehindPass 53 = .ok (.putfield 69, 3) := by decide +kernel
theorem dX3_placesBehindPass_56 : decode cX3_placesBehindPass 56 = .ok (.aload_n 0, 1) := by decide +kernel
theorem dX3_placesBehindPass_57 : decode cX3_placesBehindPass 57 = .ok (.iload 5, 2) := by decide +kernel
theorem dX3_placesBehindPass_59 : decode cX3_placesBehindPass 59 = .ok (.aload 6, 2) := by decide +kernel
theorem dX3_placesBehindPass_61 : decode cX3_placesBehindPass 61 = .ok (.getfield 106, 3) := by decide +kernel
theorem dX3_placesBehindPass_64 : decode cX3_placesBehindPass 64 = .ok (.iconst 1, 1) := by decide +kernel
theorem dX3_placesBehindPass_65 : decode cX3_placesBehindPass 65 = .ok (.invokestatic 107, 3) := by decide +kernel
theorem dX3_placesBehindPass_68 : decode cX3_placesBehindPass 68 = .ok (.aload 6, 2) := by decide +kernel
theorem dX3_placesBehindPass_70 : decode cX3_placesBehindPass 70 = .ok (.getfield 113, 3) := by decide +kernel
theorem dX3_placesBehindPass_73 : decode cX3_placesBehindPass 73 = .ok (.iload_n 3, 1) := by decide +kernel
theorem dX3_placesBehindPass_74 : decode cX3_placesBehindPass 74 = .ok (.iload 4, 2) := by decide +kernel
theorem dX3_placesBehindPass_76 : decode cX3_placesBehindPass 76 = .ok (.ior, 1) := by decide +kernel
theorem dX3_placesBehindPass_77 : decode cX3_placesBehindPass 77 = .ok (.invokevirtual 132, 3) := by decide +kernel
theorem dX3_placesBehindPass_80 : decode cX3_placesBehindPass 80 = .ok (.istore 7, 2) := by decide +kernel
theorem dX3_placesBehindPass_82 : decode cX3_placesBehindPass 82 = .ok (.aload 6, 2) := by decide +kernel
theorem dX3_placesBehindPass_84 : decode cX3_placesBehindPass 84 = .ok (.getfield 106, 3) := by decide +kernel
theorem dX3_placesBehindPass_87 : decode cX3_placesBehindPass 87 = .ok (.ifCond .ne 7, 3) := by decide +kernel
theorem dX3_placesBehindPass_90 : decode cX3_placesBehindPass 90 = .ok (.iconst 1, 1) := by decide +kernel
theorem dX3_placesBehindPass_91 : decode cX3_placesBehindPass 91 = .ok (.goto 4, 3) := by decide +kernel
theorem dX3_placesBehindPass_94 : decode cX3_placesBehindPass 94 = .ok (.iconst 0, 1) := by decide +kernel
theorem dX3_placesBehindPass_95 : decode cX3_placesBehindPass 95 = .ok (.istore 8, 2) := by decide +kernel
theorem dX3_placesBehindPass_97 : decode cX3_placesBehindPass 97 = .ok (.iload 8, 2) := by decide +kernel
theorem dX3_placesBehindPass_99 : decode cX3_placesBehindPass 99 = .ok (.ifCond .eq 11, 3) := by decide +kernel
theorem dX3_placesBehindPass_102 : decode cX3_placesBehindPass 102 = .ok (.iload 7, 2) := by decide +kernel
theorem dX3_placesBehindPass_104 : decode cX3_placesBehindPass 104 = .ok (.iload 4, 2) := by decide +kernel
theorem dX3_placesBehindPass_106 : decode cX3_placesBehindPass 106 = .ok (.ior, 1) := by decide +kernel
theorem dX3_placesBehindPass_107 : decode cX3_placesBehindPass 107 = .ok (.goto 5, 3) := by decide +kernel
theorem dX3_placesBehindPass_110 : decode cX3_placesBehindPass 110 = .ok (.iload 7, 2) := by decide +kernel
theorem dX3_placesBehindPass_112 : decode cX3_placesBehindPass 112 = .ok (.istore 4, 2) := by decide +kernel
theorem dX3_placesBehindPass_114 : decode cX3_placesBehindPass 114 = .ok (.iload 8, 2) := by decide +kernel
theorem dX3_placesBehindPass_116 : decode cX3_placesBehindPass 116 = .ok (.ifCond .eq 7, 3) := by decide +kernel
theorem dX3_placesBehindPass_119 : decode cX3_placesBehindPass 119 = .ok (.iload_n 3, 1) := by decide +kernel
theorem dX3_placesBehindPass_120 : decode cX3_placesBehindPass 120 = .ok (.goto 4, 3) := by decide +kernel
theorem dX3_placesBehindPass_123 : decode cX3_placesBehindPass 123 = .ok (.iconst 0, 1) := by decide +kernel
theorem dX3_placesBehindPass_124 : decode cX3_placesBehindPass 124 = .ok (.istore_n 3, 1) := by decide +kernel
theorem dX3_placesBehindPass_125 : decode cX3_placesBehindPass 125 = .ok (.iinc 5 1, 3) := by decide +kernel
theorem dX3_placesBehindPass_128 : decode cX3_placesBehindPass 128 = .ok (.goto (-117), 3) := by decide +kernel
theorem dX3_placesBehindPass_131 : decode cX3_placesBehindPass 131 = .ok (.iload 4, 2) := by decide +kernel
theorem dX3_placesBehindPass_133 : decode cX3_placesBehindPass 133 = .ok (.ireturn, 1) := by decide +kernel
theorem dX3_placesBehindItem_0 : decode cX3_placesBehindItem 0 = .ok (.iconst 0, 1) := by decide +kernel
theorem dX3_placesBehindItem_1 : decode cX3_placesBehindItem 1 = .ok (.istore 5, 2) := by decide +kernel
theorem dX3_placesBehindItem_3 : decode cX3_placesBehindItem 3 = .ok (.iload 4, 2) := by decide +kernel
theorem dX3_placesBehindItem_5 : decode cX3_placesBehindItem 5 = .ok (.istore 6, 2) := by decide +kernel
theorem dX3_placesBehindItem_7 : decode cX3_placesBehindItem 7 = .ok (.iconst 0, 1) := by decide +kernel
theorem dX3_placesBehindItem_8 : decode cX3_placesBehindItem 8 = .ok (.istore 7, 2) := by decide +kernel
theorem dX3_placesBehindItem_10 : decode cX3_placesBehindItem 10 = .ok (.iload 7, 2) := by decide +kernel
theorem dX3_placesBehindItem_12 : decode cX3_placesBehindItem 12 = .ok (.iload_n 3, 1) := by decide +kernel
theorem dX3_placesBehindItem_13 : decode cX3_placesBehindItem 13 = .ok (.if_icmp .gt 40, 3) := by decide +kernel
theorem dX3_placesBehindItem_16 : decode cX3_placesBehindItem 16 = .ok (.iload 6, 2) := by decide +kernel
theorem dX3_placesBehindItem_18 : decode cX3_placesBehindItem 18 = .ok (.ifCond .eq 35, 3) := by decide +kernel
theorem dX3_placesBehindItem_21 : decode cX3_placesBehindItem 21 = .ok (.iload 7, 2) := by decide +kernel
theorem dX3_placesBehindItem_23 : decode cX3_placesBehindItem 23 = .ok (.iload_n 2, 1) := by decide +kernel
theorem dX3_placesBehindItem_24 : decode cX3_placesBehindItem 24 = .ok (.if_icmp .lt 10, 3) := by decide +kernel
theorem dX3_placesBehindItem_27 : decode cX3_placesBehindItem 27 = .ok (.iload 5, 2) := by decide +kernel
theorem dX3_placesBehindItem_29 : decode cX3_placesBehindItem 29 = .ok (.iload 6, 2) := by decide +kernel
theorem dX3_placesBehindItem_31 : decode cX3_placesBehindItem 31 = .ok (.ior, 1) := by decide +kernel
theorem dX3_placesBehindItem_32 : decode cX3_placesBehindItem 32 = .ok (.istore 5, 2) := by decide +kernel
theorem dX3_placesBehindItem_34 : decode cX3_placesBehindItem 34 = .ok (.iload 6, 2) := by decide +kernel
theorem dX3_placesBehindItem_36 : decode cX3_placesBehindItem 36 = .ok (.aload_n 0, 1) := by decide +kernel
theorem dX3_placesBehindItem_37 : decode cX3_placesBehindItem 37 = .ok (.getfield 9, 3) := by decide +kernel
theorem dX3_placesBehindItem_40 : decode cX3_placesBehindItem 40 = .ok (.iload_n 1, 1) := by decide +kernel
theorem dX3_placesBehindItem_41 : decode cX3_placesBehindItem 41 = .ok (.iaload, 1) := by decide +kernel
theorem dX3_placesBehindItem_42 : decode cX3_placesBehindItem 42 = .ok (.iand, 1) := by decide +kernel
theorem dX3_placesBehindItem_43 : decode cX3_placesBehindItem 43 = .ok (.iconst 1, 1) := by decide +kernel
theorem dX3_placesBehindItem_44 : decode cX3_placesBehindItem 44 = .ok (.ishl, 1) := by decide +kernel
theorem dX3_placesBehindItem_45 : decode cX3_placesBehindItem 45 = .ok (.istore 6, 2) := by decide +kernel
theorem dX3_placesBehindItem_47 : decode cX3_placesBehindItem 47 = .ok (.iinc 7 1, 3) := by decide +kernel
theorem dX3_placesBehindItem_50 : decode cX3_placesBehindItem 50 = .ok (.goto (-40), 3) := by decide +kernel
theorem dX3_placesBehindItem_53 : decode cX3_placesBehindItem 53 = .ok (.iload 5, 2) := by decide +kernel
theorem dX3_placesBehindItem_55 : decode cX3_placesBehindItem 55 = .ok (.ireturn, 1) := by decide +kernel
theorem dX4_init_0 : decode cX4_init 0 = .ok (.aload_n 0, 1) := by decide +kernel
theorem dX4_init_1 : decode cX4_init 1 = .ok (.invokespecial 3, 3) := by decide +kernel
theorem dX4_init_4 : decode cX4_init 4 = .ok (.aload_n 0, 1) := by decide +kernel
theorem dX4_init_5 : decode cX4_init 5 = .ok (.bipush 20, 2) := by decide +kernel
theorem dX4_init_7 : decode cX4_init 7 = .ok (.anewarray 9, 3) := by decide +kernel
theorem dX4_init_10 : decode cX4_init 10 = .ok (.putfield 11, 3) := by decide +kernel
theorem dX4_init_13 : decode cX4_init 13 = .ok (.aload_n 0, 1) := by decide +kernel
theorem dX4_init_14 : decode cX4_init 14 = .ok (.new 9, 3) := by decide +kernel
theorem dX4_init_17 : decode cX4_init 17 = .ok (.dup, 1) := by decide +kernel
theorem dX4_init_18 : decode cX4_init 18 = .ok (.invokespecial 17, 3) := by decide +kernel
theorem dX4_init_21 : decode cX4_init 21 = .ok (.putfield 18, 3) := by decide +kernel
theorem dX4_init_24 : decode cX4_init 24 = .ok (.iconst 0, 1) := by decide +kernel
theorem dX4_init_25 : decode cX4_init 25 = .ok (.istore_n 1, 1) := by decide +kernel
theorem dX4_init_26 : decode cX4_init 26 = .ok (.iload_n 1, 1) := by decide +kernel
theorem dX4_init_27 : decode cX4_init 27 = .ok (.bipush 20, 2) := by decide +kernel
theorem dX4_init_29 : decode cX4_init 29 = .ok (.if_icmp .ge 22, 3) := by decide +kernel
theorem dX4_init_32 : decode cX4_init 32 = .ok (.aload_n 0, 1) := by decide +kernel
theorem dX4_init_33 : decode cX4_init 33 = .ok (.getfield 11, 3) := by decide +kernel
theorem dX4_init_36 : decode cX4_init 36 = .ok (.iload_n 1, 1) := by decide +kernel
theorem dX4_init_37 : decode cX4_init 37 = .ok (.new 9, 3) := by decide +kernel
theorem dX4_init_40 : decode cX4_init 40 = .ok (.dup, 1) := by decide +kernel
theorem dX4_init_41 : decode cX4_init 41 = .ok (.invokespecial 17, 3) := by decide +kernel
theorem dX4_init_44 : decode cX4_init 44 = .ok (.aastore, 1) := by decide +kernel
theorem dX4_init_45 : decode cX4_init 45 = .ok (.iinc 1 1, 3) := by decide +kernel
theorem dX4_init_48 : decode cX4_init 48 = .ok (.goto (-22), 3) := by decide +kernel
theorem dX4_init_51 : decode cX4_init 51 = .ok (.return_, 1) := by decide +kernel
theorem dX4_wipe_0 : decode cX4_wipe 0 = .ok (.aload_n 0, 1) := by decide +kernel
theorem dX4_wipe_1 : decode cX4_wipe 1 = .ok (.iconst 0, 1) := by decide +kernel
theorem dX4_wipe_2 : decode cX4_wipe 2 = .ok (.putfield 22, 3) := by decide +kernel
theorem dX4_wipe_5 : decode cX4_wipe 5 = .ok (.return_, 1) := by decide +kernel
theorem dX4_count_0 : decode cX4_count 0 = .ok (.aload_n 0, 1) := by decide +kernel
theorem dX4_count_1 : decode cX4_count 1 = .ok (.getfield 22, 3) := by decide +kernel
theorem dX4_count_4 : decode cX4_count 4 = .ok (.ireturn, 1) := by decide +kernel
theorem dX4_at_0 : decode cX4_at 0 = .ok (.iload_n 1, 1) := by decide +kernel
theorem dX4_at_1 : decode cX4_at 1 = .ok (.ifCond .lt 20, 3) := by decide +kernel
theorem dX4_at_4 : decode cX4_at 4 = .ok (.iload_n 1, 1) := by decide +kernel
theorem dX4_at_5 : decode cX4_at 5 = .ok (.aload_n 0, 1) := by decide +kernel
theorem dX4_at_6 : decode cX4_at 6 = .ok (.getfield 22, 3) := by decide +kernel
theorem dX4_at_9 : decode cX4_at 9 = .ok (.if_icmp .ge 12, 3) := by decide +kernel
theorem dX4_at_12 : decode cX4_at 12 = .ok (.aload_n 0, 1) := by decide +kernel
theorem dX4_at_13 : decode cX4_at 13 = .ok (.getfield 11, 3) := by decide +kernel
theorem dX4_at_16 : decode cX4_at 16 = .ok (.iload_n 1, 1) := by decide +kernel
theorem dX4_at_17 : decode cX4_at 17 = .ok (.aaload, 1) := by decide +kernel
theorem dX4_at_18 : decode cX4_at 18 = .ok (.goto 7, 3) := by decide +kernel
theorem dX4_at_21 : decode cX4_at 21 = .ok (.aload_n 0, 1) := by decide +kernel
theorem dX4_at_22 : decode cX4_at 22 = .ok (.getfield 18, 3) := by decide +kernel
theorem dX4_at_25 : decode cX4_at 25 = .ok (.areturn, 1) := by decide +kernel
theorem dX4_append_0 : decode cX4_append 0 = .ok (.aload_n 0, 1) := by decide +kernel
theorem dX4_append_1 : decode cX4_append 1 = .ok (.getfield 22, 3) := by decide +kernel
theorem dX4_append_4 : decode cX4_append 4 = .ok (.bipush 20, 2) := by decide +kernel
theorem dX4_append_6 : decode cX4_append 6 = .ok (.if_icmp .lt 8, 3) := by decide +kernel
theorem dX4_append_9 : decode cX4_append 9 = .ok (.aload_n 0, 1) := by decide +kernel
theorem dX4_append_10 : decode cX4_append 10 = .ok (.getfield 18, 3) := by decide +kernel
theorem dX4_append_13 : decode cX4_append 13 = .ok (.areturn, 1) := by decide +kernel
theorem dX4_append_14 : decode cX4_append 14 = .ok (.aload_n 0, 1) := by decide +kernel
theorem dX4_append_15 : decode cX4_append 15 = .ok (.dup, 1) := by decide +kernel
theorem dX4_append_16 : decode cX4_append 16 = .ok (.getfield 22, 3) := by decide +kernel
theorem dX4_append_19 : decode cX4_append 19 = .ok (.iconst 1, 1) := by decide +kernel
theorem dX4_append_20 : decode cX4_append 20 = .ok (.iadd, 1) := by decide +kernel
theorem dX4_append_21 : decode cX4_append 21 = .ok (.putfield 22, 3) := by decide +kernel
theorem dX4_append_24 : decode cX4_append 24 = .ok (.aload_n 0, 1) := by decide +kernel
theorem dX4_append_25 : decode cX4_append 25 = .ok (.getfield 11, 3) := by decide +kernel
theorem dX4_append_28 : decode cX4_append 28 = .ok (.aload_n 0, 1) := by decide +kernel
theorem dX4_append_29 : decode cX4_append 29 = .ok (.getfield 22, 3) := by decide +kernel
theorem dX4_append_32 : decode cX4_append 32 = .ok (.iconst 1, 1) := by decide +kernel
theorem dX4_append_33 : decode cX4_append 33 = .ok (.isub, 1) := by decide +kernel
theorem dX4_append_34 : decode cX4_append 34 = .ok (.aaload, 1) := by decide +kernel
theorem dX4_append_35 : decode cX4_append 35 = .ok (.areturn, 1) := by decide +kernel
theorem dX4_last_0 : decode cX4_last 0 = .ok (.aload_n 0, 1) := by decide +kernel
theorem dX4_last_1 : decode cX4_last 1 = .ok (.aload_n 0, 1) := by decide +kernel
theorem dX4_last_2 : decode cX4_last 2 = .ok (.getfield 22, 3) := by decide +kernel
theorem dX4_last_5 : decode cX4_last 5 = .ok (.iconst 1, 1) := by decide +kernel
theorem dX4_last_6 : decode cX4_last 6 = .ok (.isub, 1) := by decide +kernel
theorem dX4_last_7 : decode cX4_last 7 = .ok (.invokevirtual 26, 3) := by decide +kernel
theorem dX4_last_10 : decode cX4_last 10 = .ok (.areturn, 1) := by decide +kernel
theorem dX4_bodyCount_0 : decode cX4_bodyCount 0 = .ok (.aload_n 0, 1) := by decide +kernel
theorem dX4_bodyCount_1 : decode cX4_bodyCount 1 = .ok (.getfield 22, 3) := by decide +kernel
theorem dX4_bodyCount_4 : decode cX4_bodyCount 4 = .ok (.iconst 2, 1) := by decide +kernel
theorem dX4_bodyCount_5 : decode cX4_bodyCount 5 = .ok (.if_icmp .ge 7, 3) := by decide +kernel
theorem dX4_bodyCount_8 : decode cX4_bodyCount 8 = .ok (.iconst 0, 1) := by decide +kernel
theorem dX4_bodyCount_9 : decode cX4_bodyCount 9 = .ok (.goto 9, 3) := by decide +kernel
theorem dX4_bodyCount_12 : decode cX4_bodyCount 12 = .ok (.aload_n 0, 1) := by decide +kernel
theorem dX4_bodyCount_13 : decode cX4_bodyCount 13 = .ok (.getfield 22, 3) := by decide +kernel
theorem dX4_bodyCount_16 : decode cX4_bodyCount 16 = .ok (.iconst 2, 1) := by decide +kernel
theorem dX4_bodyCount_17 : decode cX4_bodyCount 17 = .ok (.isub, 1) := by decide +kernel
theorem dX4_bodyCount_18 : decode cX4_bodyCount 18 = .ok (.ireturn, 1) := by decide +kernel
theorem dX4_bodyAt_0 : decode cX4_bodyAt 0 = .ok (.iload_n 1, 1) := by decide +kernel
theorem dX4_bodyAt_1 : decode cX4_bodyAt 1 = .ok (.ifCond .lt 21, 3) := by decide +kernel
theorem dX4_bodyAt_4 : decode cX4_bodyAt 4 = .ok (.iload_n 1, 1) := by decide +kernel
theorem dX4_bodyAt_5 : decode cX4_bodyAt 5 = .ok (.aload_n 0, 1) := by decide +kernel
theorem dX4_bodyAt_6 : decode cX4_bodyAt 6 = .ok (.invokevirtual 30, 3) := by decide +kernel
theorem dX4_bodyAt_9 : decode cX4_bodyAt 9 = .ok (.if_icmp .ge 13, 3) := by decide +kernel
theorem dX4_bodyAt_12 : decode cX4_bodyAt 12 = .ok (.aload_n 0, 1) := by decide +kernel
theorem dX4_bodyAt_13 : decode cX4_bodyAt 13 = .ok (.iload_n 1, 1) := by decide +kernel
theorem dX4_bodyAt_14 : decode cX4_bodyAt 14 = .ok (.iconst 1, 1) := by decide +kernel
theorem dX4_bodyAt_15 : decode cX4_bodyAt 15 = .ok (.iadd, 1) := by decide +kernel
theorem dX4_bodyAt_16 : decode cX4_bodyAt 16 = .ok (.invokevirtual 26, 3) := by decide +kernel
theorem dX4_bodyAt_19 : decode cX4_bodyAt 19 = .ok (.goto 7, 3) := by decide +kernel
theorem dX4_bodyAt_22 : decode cX4_bodyAt 22 = .ok (.aload_n 0, 1) := by decide +kernel
theorem dX4_bodyAt_23 : decode cX4_bodyAt 23 = .ok (.getfield 18, 3) := by decide +kernel
theorem dX4_bodyAt_26 : decode cX4_bodyAt 26 = .ok (.areturn, 1) := by decide +kernel
theorem dX4_headerControl_0 : decode cX4_headerControl 0 = .ok (.aload_n 0, 1) := by decide +kernel
theorem dX4_headerControl_1 : decode cX4_headerControl 1 = .ok (.iconst 0, 1) := by decide +kernel
theorem dX4_headerControl_2 : decode cX4_headerControl 2 = .ok (.invokevirtual 26, 3) := by decide +kernel
theorem dX4_headerControl_5 : decode cX4_headerControl 5 = .ok (.iconst 0, 1) := by decide +kernel
theorem dX4_headerControl_6 : decode cX4_headerControl 6 = .ok (.invokevirtual 34, 3) := by decide +kernel
theorem dX4_headerControl_9 : decode cX4_headerControl 9 = .ok (.ireturn, 1) := by decide +kernel
theorem dX5_init_0 : decode cX5_init 0 = .ok (.aload_n 0, 1) := by decide +kernel
theorem dX5_init_1 : decode cX5_init 1 = .ok (.invokespecial 3, 3) := by decide +kernel
theorem dX5_init_4 : decode cX5_init 4 = .ok (.aload_n 0, 1) := by decide +kernel
theorem dX5_init_5 : decode cX5_init 5 = .ok (.aload_n 2, 1) := by decide +kernel
theorem dX5_init_6 : decode cX5_init 6 = .ok (.putfield 9, 3) := by decide +kernel
theorem dX5_init_9 : decode cX5_init 9 = .ok (.aload_n 0, 1) := by decide +kernel
theorem dX5_init_10 : decode cX5_init 10 = .ok (.new 15, 3) := by decide +kernel
theorem dX5_init_13 : decode cX5_init 13 = .ok (.dup, 1) := by decide +kernel
theorem dX5_init_14 : decode cX5_init 14 = .ok (.aload_n 1, 1) := by decide +kernel
theorem dX5_init_15 : decode cX5_init 15 = .ok (.invokespecial 17, 3) := by decide +kernel
theorem dX5_init_18 : decode cX5_init 18 = .ok (.putfield 20, 3) := by decide +kernel
theorem dX5_init_21 : decode cX5_init 21 = .ok (.return_, 1) := by decide +kernel
theorem dX5_accepts_0 : decode cX5_accepts 0 = .ok (.aload_n 0, 1) := by decide +kernel
theorem dX5_accepts_1 : decode cX5_accepts 1 = .ok (.getfield 9, 3) := by decide +kernel
theorem dX5_accepts_4 : decode cX5_accepts 4 = .ok (.invokevirtual 24, 3) := by decide +kernel
theorem dX5_accepts_7 : decode cX5_accepts 7 = .ok (.aload_n 0, 1) := by decide +kernel
theorem dX5_accepts_8 : decode cX5_accepts 8 = .ok (.aload_n 1, 1) := by decide +kernel
theorem dX5_accepts_9 : decode cX5_accepts 9 = .ok (.aload_n 2, 1) := by decide +kernel
theorem dX5_accepts_10 : decode cX5_accepts 10 = .ok (.invokevirtual 29, 3) := by decide +kernel
theorem dX5_accepts_13 : decode cX5_accepts 13 = .ok (.aload_n 0, 1) := by decide +kernel
theorem dX5_accepts_14 : decode cX5_accepts 14 = .ok (.getfield 9, 3) := by decide +kernel
theorem dX5_accepts_17 : decode cX5_accepts 17 = .ok (.invokevirtual 33, 3) := by decide +kernel
theorem dX5_accepts_20 : decode cX5_accepts 20 = .ok (.ifCond .ne 8, 3) := by decide +kernel
theorem dX5_accepts_23 : decode cX5_accepts 23 = .ok (.aload_n 0, 1) := by decide +kernel
theorem dX5_accepts_24 : decode cX5_accepts 24 = .ok (.aload_n 2, 1) := by decide +kernel
theorem dX5_accepts_25 : decode cX5_accepts 25 = .ok (.invokevirtual 37, 3) := by decide +kernel
theorem dX5_accepts_28 : decode cX5_accepts 28 = .ok (.aload_n 0, 1) := by decide +kernel
theorem dX5_accepts_29 : decode cX5_accepts 29 = .ok (.getfield 9, 3) := by decide +kernel
theorem dX5_accepts_32 : decode cX5_accepts 32 = .ok (.invokevirtual 33, 3) := by decide +kernel
theorem dX5_accepts_35 : decode cX5_accepts 35 = .ok (.ifCond .ne 11, 3) := by decide +kernel
theorem dX5_accepts_38 : decode cX5_accepts 38 = .ok (.aload_n 0, 1) := by decide +kernel
theorem dX5_accepts_39 : decode cX5_accepts 39 = .ok (.aload_n 2, 1) := by decide +kernel
theorem dX5_accepts_40 : decode cX5_accepts 40 = .ok (.iload_n 3, 1) := by decide +kernel
theorem dX5_accepts_41 : decode cX5_accepts 41 = .ok (.iload 4, 2) := by decide +kernel
theorem dX5_accepts_43 : decode cX5_accepts 43 = .ok (.invokevirtual 41, 3) := by decide +kernel
theorem dX5_accepts_46 : decode cX5_accepts 46 = .ok (.aload_n 0, 1) := by decide +kernel
theorem dX5_accepts_47 : decode cX5_accepts 47 = .ok (.getfield 9, 3) := by decide +kernel
theorem dX5_accepts_50 : decode cX5_accepts 50 = .ok (.invokevirtual 33, 3) := by decide +kernel
theorem dX5_accepts_53 : decode cX5_accepts 53 = .ok (.ifCond .ne 8, 3) := by decide +kernel
theorem dX5_accepts_56 : decode cX5_accepts 56 = .ok (.aload_n 0, 1) := by decide +kernel
theorem dX5_accepts_57 : decode cX5_accepts 57 = .ok (.aload_n 2, 1) := by decide +kernel
theorem dX5_accepts_58 : decode cX5_accepts 58 = .ok (.invokevirtual 45, 3) := by decide +kernel
theorem dX5_accepts_61 : decode cX5_accepts 61 = .ok (.aload_n 0, 1) := by decide +kernel
theorem dX5_accepts_62 : decode cX5_accepts 62 = .ok (.getfield 9, 3) := by decide +kernel
theorem dX5_accepts_65 : decode cX5_accepts 65 = .ok (.invokevirtual 33, 3) := by decide +kernel
theorem dX5_accepts_68 : decode cX5_accepts 68 = .ok (.ifCond .ne 7, 3) := by decide +kernel
theorem dX5_accepts_71 : decode cX5_accepts 71 = .ok (.iconst 1, 1) := by decide +kernel
theorem dX5_accepts_72 : decode cX5_accepts 72 = .ok (.goto 4, 3) := by decide +kernel
theorem dX5_accepts_75 : decode cX5_accepts 75 = .ok (.iconst 0, 1) := by decide +kernel
theorem dX5_accepts_76 : decode cX5_accepts 76 = .ok (.ireturn, 1) := by decide +kernel
theorem dX5_split_0 : decode cX5_split 0 = .ok (.aload_n 2, 1) := by decide +kernel
theorem dX5_split_1 : decode cX5_split 1 = .ok (.invokevirtual 48, 3) := by decide +kernel
theorem dX5_split_4 : decode cX5_split 4 = .ok (.iconst 0, 1) := by decide +kernel
theorem dX5_split_5 : decode cX5_split 5 = .ok (.istore_n 3, 1) := by decide +kernel
theorem dX5_split_6 : decode cX5_split 6 = .ok (.iload_n 3, 1) := by decide +kernel
theorem dX5_split_7 : decode cX5_split 7 = .ok (.aload_n 1, 1) := by decide +kernel
theorem dX5_split_8 : decode cX5_split 8 = .ok (.invokevirtual 51, 3) := by decide +kernel
theorem dX5_split_11 : decode cX5_split 11 = .ok (.if_icmp .ge 58, 3) := by decide +kernel
theorem dX5_split_14 : decode cX5_split 14 = .ok (.aload_n 2, 1) := by decide +kernel
theorem dX5_split_15 : decode cX5_split 15 = .ok (.invokevirtual 54, 3) := by decide +kernel
theorem dX5_split_18 : decode cX5_split 18 = .ok (.bipush 20, 2) := by decide +kernel
theorem dX5_split_20 : decode cX5_split 20 = .ok (.if_icmp .ge 49, 3) := by decide +kernel
theorem dX5_split_23 : decode cX5_split 23 = .ok (.aload_n 1, 1) := by decide +kernel
theorem dX5_split_24 : decode cX5_split 24 = .ok (.iload_n 3, 1) := by decide +kernel
theorem dX5_split_25 : decode cX5_split 25 = .ok (.invokestatic 55, 3) := by decide +kernel
theorem dX5_split_28 : decode cX5_split 28 = .ok (.istore 4, 2) := by decide +kernel
theorem dX5_split_30 : decode cX5_split 30 = .ok (.iload 4, 2) := by decide +kernel
theorem dX5_split_32 : decode cX5_split 32 = .ok (.aload_n 1, 1) := by decide +kernel
theorem dX5_split_33 : decode cX5_split 33 = .ok (.invokevirtual 51, 3) := by decide +kernel
theorem dX5_split_36 : decode cX5_split 36 = .ok (.if_icmp .lt 13, 3) := by decide +kernel
theorem dX5_split_39 : decode cX5_split 39 = .ok (.aload_n 0, 1) := by decide +kernel
theorem dX5_split_40 : decode cX5_split 40 = .ok (.getfield 9, 3) := by decide +kernel
theorem dX5_split_43 : decode cX5_split 43 = .ok (.iconst 1, 1) := by decide +kernel
theorem dX5_split_44 : decode cX5_split 44 = .ok (.iload_n 3, 1) := by decide +kernel
theorem dX5_split_45 : decode cX5_split 45 = .ok (.invokevirtual 59, 3) := by decide +kernel
theorem dX5_split_48 : decode cX5_split 48 = .ok (.return_, 1) := by decide +kernel
theorem dX5_split_49 : decode cX5_split 49 = .ok (.aload_n 0, 1) := by decide +kernel
theorem dX5_split_50 : decode cX5_split 50 = .ok (.aload_n 1, 1) := by decide +kernel
theorem dX5_split_51 : decode cX5_split 51 = .ok (.iload_n 3, 1) := by decide +kernel
theorem dX5_split_52 : decode cX5_split 52 = .ok (.iload 4, 2) := by decide +kernel
theorem dX5_split_54 : decode cX5_split 54 = .ok (.aload_n 2, 1) := by decide +kernel
theorem dX5_split_55 : decode cX5_split 55 = .ok (.invokevirtual 63, 3) := by decide +kernel
theorem dX5_split_58 : decode cX5_split 58 = .ok (.invokevirtual 67, 3) := by decide +kernel
theorem dX5_split_61 : decode cX5_split 61 = .ok (.iload 4, 2) := by decide +kernel
theorem dX5_split_63 : decode cX5_split 63 = .ok (.iconst 1, 1) := by decide +kernel
theorem dX5_split_64 : decode cX5_split 64 = .ok (.iadd, 1) := by decide +kernel
theorem dX5_split_65 : decode cX5_split 65 = .ok (.istore_n 3, 1) := by decide +kernel
theorem dX5_split_66 : decode cX5_split 66 = .ok (.goto (-60), 3) := by decide +kernel
theorem dX5_split_69 : decode cX5_split 69 = .ok (.iload_n 3, 1) := by decide +kernel
theorem dX5_split_70 : decode cX5_split 70 = .ok (.aload_n 1, 1) := by decide +kernel
theorem dX5_split_71 : decode cX5_split 71 = .ok (.invokevirtual 51, 3) := by decide +kernel
theorem dX5_split_74 : decode cX5_split 74 = .ok (.if_icmp .ge 12, 3) := by decide +kernel
theorem dX5_split_77 : decode cX5_split 77 = .ok (.aload_n 0, 1) := by decide +kernel
theorem dX5_split_78 : decode cX5_split 78 = .ok (.getfield 9, 3) := by decide +kernel
theorem dX5_split_81 : decode cX5_split 81 = .ok (.iconst 5, 1) := by decide +kernel
theorem dX5_split_82 : decode cX5_split 82 = .ok (.iload_n 3, 1) := by decide +kernel
theorem dX5_split_83 : decode cX5_split 83 = .ok (.invokevirtual 59, 3) := by decide +kernel
theorem dX5_split_86 : decode cX5_split 86 = .ok (.return_, 1) := by decide +kernel
theorem dX5_takeSegment_0 : decode cX5_takeSegment 0 = .ok (.aload_n 1, 1) := by decide +kernel
theorem dX5_takeSegment_1 : decode cX5_takeSegment 1 = .ok (.iload_n 2, 1) := by decide +kernel
theorem dX5_takeSegment_2 : decode cX5_takeSegment 2 = .ok (.iload_n 3, 1) := by decide +kernel
theorem dX5_takeSegment_3 : decode cX5_takeSegment 3 = .ok (.invokestatic 71, 3) := by decide +kernel
theorem dX5_takeSegment_6 : decode cX5_takeSegment 6 = .ok (.istore 5, 2) := by decide +kernel
theorem dX5_takeSegment_8 : decode cX5_takeSegment 8 = .ok (.aload 4, 2) := by decide +kernel
theorem dX5_takeSegment_10 : decode cX5_takeSegment 10 = .ok (.iload_n 2, 1) := by decide +kernel
theorem dX5_takeSegment_11 : decode cX5_takeSegment 11 = .ok (.aload_n 1, 1) := by decide +kernel
theorem dX5_takeSegment_12 : decode cX5_takeSegment 12 = .ok (.iload_n 2, 1) := by decide +kernel
theorem dX5_takeSegment_13 : decode cX5_takeSegment 13 = .ok (.iload 5, 2) := by decide +kernel
theorem dX5_takeSegment_15 : decode cX5_takeSegment 15 = .ok (.invokestatic 75, 3) := by decide +kernel
theorem dX5_takeSegment_18 : decode cX5_takeSegment 18 = .ok (.invokevirtual 79, 3) := by decide +kernel
theorem dX5_takeSegment_21 : decode cX5_takeSegment 21 = .ok (.aload 4, 2) := by decide +kernel
theorem dX5_takeSegment_23 : decode cX5_takeSegment 23 = .ok (.invokevirtual 85, 3) := by decide +kernel
theorem dX5_takeSegment_26 : decode cX5_takeSegment 26 = .ok (.invokestatic 89, 3) := by decide +kernel
theorem dX5_takeSegment_29 : decode cX5_takeSegment 29 = .ok (.ifCond .ne 12, 3) := by decide +kernel
theorem dX5_takeSegment_32 : decode cX5_takeSegment 32 = .ok (.aload_n 0, 1) := by decide +kernel
theorem dX5_takeSegment_33 : decode cX5_takeSegment 33 = .ok (.getfield 9, 3) := by decide +kernel
theorem dX5_takeSegment_36 : decode cX5_takeSegment 36 = .ok (.iconst 2, 1) := by decide +kernel
theorem dX5_takeSegment_37 : decode cX5_takeSegment 37 = .ok (.iload_n 2, 1) := by decide +kernel
theorem dX5_takeSegment_38 : decode cX5_takeSegment 38 = .ok (.invokevirtual 59, 3) := by decide +kernel
theorem dX5_takeSegment_41 : decode cX5_takeSegment 41 = .ok (.iload 5, 2) := by decide +kernel
theorem dX5_takeSegment_43 : decode cX5_takeSegment 43 = .ok (.iload_n 3, 1) := by decide +kernel
theorem dX5_takeSegment_44 : decode cX5_takeSegment 44 = .ok (.if_icmp .ge 41, 3) := by decide +kernel
theorem dX5_takeSegment_47 : decode cX5_takeSegment 47 = .ok (.aload 4, 2) := by decide +kernel
theorem dX5_takeSegment_49 : decode cX5_takeSegment 49 = .ok (.invokevirtual 93, 3) := by decide +kernel
theorem dX5_takeSegment_52 : decode cX5_takeSegment 52 = .ok (.iconst 5, 1) := by decide +kernel
theorem dX5_takeSegment_53 : decode cX5_takeSegment 53 = .ok (.if_icmp .ge 32, 3) := by decide +kernel
theorem dX5_takeSegment_56 : decode cX5_takeSegment 56 = .ok (.iload 5, 2) := by decide +kernel
theorem dX5_takeSegment_58 : decode cX5_takeSegment 58 = .ok (.iconst 1, 1) := by decide +kernel
theorem dX5_takeSegment_59 : decode cX5_takeSegment 59 = .ok (.iadd, 1) := by decide +kernel
theorem dX5_takeSegment_60 : decode cX5_takeSegment 60 = .ok (.istore 6, 2) := by decide +kernel
theorem dX5_takeSegment_62 : decode cX5_takeSegment 62 = .ok (.aload_n 1, 1) := by decide +kernel
theorem dX5_takeSegment_63 : decode cX5_takeSegment 63 = .ok (.iload 6, 2) := by decide +kernel
theorem dX5_takeSegment_65 : decode cX5_takeSegment 65 = .ok (.iload_n 3, 1) := by decide +kernel
theorem dX5_takeSegment_66 : decode cX5_takeSegment 66 = .ok (.invokestatic 71, 3) := by decide +kernel
theorem dX5_takeSegment_69 : decode cX5_takeSegment 69 = .ok (.istore 5, 2) := by decide +kernel
theorem dX5_takeSegment_71 : decode cX5_takeSegment 71 = .ok (.aload_n 0, 1) := by decide +kernel
theorem dX5_takeSegment_72 : decode cX5_takeSegment 72 = .ok (.aload_n 1, 1) := by decide +kernel
theorem dX5_takeSegment_73 : decode cX5_takeSegment 73 = .ok (.iload 6, 2) := by decide +kernel
theorem dX5_takeSegment_75 : decode cX5_takeSegment 75 = .ok (.iload 5, 2) := by decide +kernel
theorem dX5_takeSegment_77 : decode cX5_takeSegment 77 = .ok (.aload 4, 2) := by decide +kernel
theorem dX5_takeSegment_79 : decode cX5_takeSegment 79 = .ok (.invokevirtual 96, 3) := by decide +kernel
theorem dX5_takeSegment_82 : decode cX5_takeSegment 82 = .ok (.goto (-41), 3) := by decide +kernel
theorem dX5_takeSegment_85 : decode cX5_takeSegment 85 = .ok (.iload 5, 2) := by decide +kernel
theorem dX5_takeSegment_87 : decode cX5_takeSegment 87 = .ok (.iload_n 3, 1) := by decide +kernel
theorem dX5_takeSegment_88 : decode cX5_takeSegment 88 = .ok (.if_icmp .ge 15, 3) := by decide +kernel
theorem dX5_takeSegment_91 : decode cX5_takeSegment 91 = .ok (.aload_n 0, 1) := by decide +kernel
theorem dX5_takeSegment_92 : decode cX5_takeSegment 92 = .ok (.getfield 9, 3) := by decide +kernel
theorem dX5_takeSegment_95 : decode cX5_takeSegment 95 = .ok (.iconst 3, 1) := by decide +kernel
theorem dX5_takeSegment_96 : decode cX5_takeSegment 96 = .ok (.iload 5, 2) := by decide +kernel
theorem dX5_takeSegment_98 : decode cX5_takeSegment 98 = .ok (.iconst 1, 1) := by decide +kernel
theorem dX5_takeSegment_99 : decode cX5_takeSegment 99 = .ok (.iadd, 1) := by decide +kernel
theorem dX5_takeSegment_100 : decode cX5_takeSegment 100 = .ok (.invokevirtual 59, 3) := by decide +kernel
theorem dX5_takeSegment_103 : decode cX5_takeSegment 103 = .ok (.return_, 1) := by decide +kernel
theorem dX5_takeElement_0 : decode cX5_takeElement 0 = .ok (.aload 4, 2) := by decide +kernel
theorem dX5_takeElement_2 : decode cX5_takeElement 2 = .ok (.invokevirtual 99, 3) := by decide +kernel
theorem dX5_takeElement_5 : decode cX5_takeElement 5 = .ok (.iload_n 2, 1) := by decide +kernel
theorem dX5_takeElement_6 : decode cX5_takeElement 6 = .ok (.istore 5, 2) := by decide +kernel
theorem dX5_takeElement_8 : decode cX5_takeElement 8 = .ok (.iload 5, 2) := by decide +kernel
theorem dX5_takeElement_10 : decode cX5_takeElement 10 = .ok (.iload_n 3, 1) := by decide +kernel
theorem dX5_takeElement_11 : decode cX5_takeElement 11 = .ok (.if_icmp .ge 34, 3) := by decide +kernel
theorem dX5_takeElement_14 : decode cX5_takeElement 14 = .ok (.aload_n 1, 1) := by decide +kernel
theorem dX5_takeElement_15 : decode cX5_takeElement 15 = .ok (.iload 5, 2) := by decide +kernel
theorem dX5_takeElement_17 : decode cX5_takeElement 17 = .ok (.invokevirtual 102, 3) := by decide +kernel
theorem dX5_takeElement_20 : decode cX5_takeElement 20 = .ok (.bipush 63, 2) := by decide +kernel
theorem dX5_takeElement_22 : decode cX5_takeElement 22 = .ok (.if_icmp .ne 6, 3) := by decide +kernel
theorem dX5_takeElement_25 : decode cX5_takeElement 25 = .ok (.iinc 5 1, 3) := by decide +kernel
theorem dX5_takeElement_28 : decode cX5_takeElement 28 = .ok (.aload 4, 2) := by decide +kernel
theorem dX5_takeElement_30 : decode cX5_takeElement 30 = .ok (.aload_n 1, 1) := by decide +kernel
theorem dX5_takeElement_31 : decode cX5_takeElement 31 = .ok (.iload 5, 2) := by decide +kernel
theorem dX5_takeElement_33 : decode cX5_takeElement 33 = .ok (.invokevirtual 102, 3) := by decide +kernel
theorem dX5_takeElement_36 : decode cX5_takeElement 36 = .ok (.invokevirtual 106, 3) := by decide +kernel
theorem dX5_takeElement_39 : decode cX5_takeElement 39 = .ok (.iinc 5 1, 3) := by decide +kernel
theorem dX5_takeElement_42 : decode cX5_takeElement 42 = .ok (.goto (-34), 3) := by decide +kernel
theorem dX5_takeElement_45 : decode cX5_takeElement 45 = .ok (.aload 4, 2) := by decide +kernel
theorem dX5_takeElement_47 : decode cX5_takeElement 47 = .ok (.aload 4, 2) := by decide +kernel
theorem dX5_takeElement_49 : decode cX5_takeElement 49 = .ok (.invokevirtual 93, 3) := by decide +kernel
theorem dX5_takeElement_52 : decode cX5_takeElement 52 = .ok (.iconst 1, 1) := by decide +kernel
theorem dX5_takeElement_53 : decode cX5_takeElement 53 = .ok (.isub, 1) := by decide +kernel
theorem dX5_takeElement_54 : decode cX5_takeElement 54 = .ok (.invokevirtual 109, 3) := by decide +kernel
theorem dX5_takeElement_57 : decode cX5_takeElement 57 = .ok (.bipush 8, 2) := by decide +kernel
theorem dX5_takeElement_59 : decode cX5_takeElement 59 = .ok (.if_icmp .le 12, 3) := by decide +kernel
theorem dX5_takeElement_62 : decode cX5_takeElement 62 = .ok (.aload_n 0, 1) := by decide +kernel
theorem dX5_takeElement_63 : decode cX5_takeElement 63 = .ok (.getfield 9, 3) := by decide +kernel
theorem dX5_takeElement_66 : decode cX5_takeElement 66 = .ok (.iconst 4, 1) := by decide +kernel
theorem dX5_takeElement_67 : decode cX5_takeElement 67 = .ok (.iload_n 2, 1) := by decide +kernel
theorem dX5_takeElement_68 : decode cX5_takeElement 68 = .ok (.invokevirtual 59, 3) := by decide +kernel
theorem dX5_takeElement_71 : decode cX5_takeElement 71 = .ok (.return_, 1) := by decide +kernel
theorem dX5_tagBetween_0 : decode cX5_tagBetween 0 = .ok (.aload_n 0, 1) := by decide +kernel
theorem dX5_tagBetween_1 : decode cX5_tagBetween 1 = .ok (.iload_n 1, 1) := by decide +kernel
theorem dX5_tagBetween_2 : decode cX5_tagBetween 2 = .ok (.invokevirtual 102, 3) := by decide +kernel
theorem dX5_tagBetween_5 : decode cX5_tagBetween 5 = .ok (.bipush 63, 2) := by decide +kernel
theorem dX5_tagBetween_7 : decode cX5_tagBetween 7 = .ok (.if_icmp .ne 9, 3) := by decide +kernel
theorem dX5_tagBetween_10 : decode cX5_tagBetween 10 = .ok (.iload_n 1, 1) := by decide +kernel
theorem dX5_tagBetween_11 : decode cX5_tagBetween 11 = .ok (.iconst 1, 1) := by decide +kernel
theorem dX5_tagBetween_12 : decode cX5_tagBetween 12 = .ok (.iadd, 1) := by decide +kernel
theorem dX5_tagBetween_13 : decode cX5_tagBetween 13 = .ok (.goto 4, 3) := by decide +kernel
theorem dX5_tagBetween_16 : decode cX5_tagBetween 16 = .ok (.iload_n 1, 1) := by decide +kernel
theorem dX5_tagBetween_17 : decode cX5_tagBetween 17 = .ok (.istore_n 3, 1) := by decide +kernel
theorem dX5_tagBetween_18 : decode cX5_tagBetween 18 = .ok (.iload_n 3, 1) := by decide +kernel
theorem dX5_tagBetween_19 : decode cX5_tagBetween 19 = .ok (.iconst 1, 1) := by decide +kernel
theorem dX5_tagBetween_20 : decode cX5_tagBetween 20 = .ok (.iadd, 1) := by decide +kernel
theorem dX5_tagBetween_21 : decode cX5_tagBetween 21 = .ok (.iload_n 2, 1) := by decide +kernel
theorem dX5_tagBetween_22 : decode cX5_tagBetween 22 = .ok (.if_icmp .ne 7, 3) := by decide +kernel
theorem dX5_tagBetween_25 : decode cX5_tagBetween 25 = .ok (.iconst 1, 1) := by decide +kernel
theorem dX5_tagBetween_26 : decode cX5_tagBetween 26 = .ok (.goto 4, 3) := by decide +kernel
theorem dX5_tagBetween_29 : decode cX5_tagBetween 29 = .ok (.iconst 0, 1) := by decide +kernel
theorem dX5_tagBetween_30 : decode cX5_tagBetween 30 = .ok (.istore 4, 2) := by decide +kernel
theorem dX5_tagBetween_32 : decode cX5_tagBetween 32 = .ok (.iload 4, 2) := by decide +kernel
theorem dX5_tagBetween_34 : decode cX5_tagBetween 34 = .ok (.ifCond .eq 22, 3) := by decide +kernel
theorem dX5_tagBetween_37 : decode cX5_tagBetween 37 = .ok (.aload_n 0, 1) := by decide +kernel
theorem dX5_tagBetween_38 : decode cX5_tagBetween 38 = .ok (.iload_n 3, 1) := by decide +kernel
theorem dX5_tagBetween_39 : decode cX5_tagBetween 39 = .ok (.invokevirtual 102, 3) := by decide +kernel
theorem dX5_tagBetween_42 : decode cX5_tagBetween 42 = .ok (.invokestatic 89, 3) := by decide +kernel
theorem dX5_tagBetween_45 : decode cX5_tagBetween 45 = .ok (.ifCond .eq 11, 3) := by decide +kernel
theorem dX5_tagBetween_48 : decode cX5_tagBetween 48 = .ok (.aload_n 0, 1) := by decide +kernel
theorem dX5_tagBetween_49 : decode cX5_tagBetween 49 = .ok (.iload_n 3, 1) := by decide +kernel
theorem dX5_tagBetween_50 : decode cX5_tagBetween 50 = .ok (.invokevirtual 102, 3) := by decide +kernel
theorem dX5_tagBetween_53 : decode cX5_tagBetween 53 = .ok (.goto 5, 3) := by decide +kernel
theorem dX5_tagBetween_56 : decode cX5_tagBetween 56 = .ok (.bipush 32, 2) := by decide +kernel
theorem dX5_tagBetween_58 : decode cX5_tagBetween 58 = .ok (.ireturn, 1) := by decide +kernel
theorem dX5_segmentEnd_0 : decode cX5_segmentEnd 0 = .ok (.iload_n 1, 1) := by decide +kernel
theorem dX5_segmentEnd_1 : decode cX5_segmentEnd 1 = .ok (.istore_n 2, 1) := by decide +kernel
theorem dX5_segmentEnd_2 : decode cX5_segmentEnd 2 = .ok (.iload_n 2, 1) := by decide +kernel
theorem dX5_segmentEnd_3 : decode cX5_segmentEnd 3 = .ok (.aload_n 0, 1) := by decide +kernel
theorem dX5_segmentEnd_4 : decode cX5_segmentEnd 4 = .ok (.invokevirtual 51, 3) := by decide +kernel
theorem dX5_segmentEnd_7 : decode cX5_segmentEnd 7 = .ok (.if_icmp .ge 34, 3) := by decide +kernel
theorem dX5_segmentEnd_10 : decode cX5_segmentEnd 10 = .ok (.aload_n 0, 1) := by decide +kernel
theorem dX5_segmentEnd_11 : decode cX5_segmentEnd 11 = .ok (.iload_n 2, 1) := by decide +kernel
theorem dX5_segmentEnd_12 : decode cX5_segmentEnd 12 = .ok (.invokevirtual 102, 3) := by decide +kernel
theorem dX5_segmentEnd_15 : decode cX5_segmentEnd 15 = .ok (.bipush 39, 2) := by decide +kernel
theorem dX5_segmentEnd_17 : decode cX5_segmentEnd 17 = .ok (.if_icmp .eq 24, 3) := by decide +kernel
theorem dX5_segmentEnd_20 : decode cX5_segmentEnd 20 = .ok (.iload_n 2, 1) := by decide +kernel
theorem dX5_segmentEnd_21 : decode cX5_segmentEnd 21 = .ok (.aload_n 0, 1) := by decide +kernel
theorem dX5_segmentEnd_22 : decode cX5_segmentEnd 22 = .ok (.iload_n 2, 1) := by decide +kernel
theorem dX5_segmentEnd_23 : decode cX5_segmentEnd 23 = .ok (.invokevirtual 102, 3) := by decide +kernel
theorem dX5_segmentEnd_26 : decode cX5_segmentEnd 26 = .ok (.bipush 63, 2) := by decide +kernel
theorem dX5_segmentEnd_28 : decode cX5_segmentEnd 28 = .ok (.if_icmp .ne 7, 3) := by decide +kernel
theorem dX5_segmentEnd_31 : decode cX5_segmentEnd 31 = .ok (.iconst 2, 1) := by decide +kernel
theorem dX5_segmentEnd_32 : decode cX5_segmentEnd 32 = .ok (.goto 4, 3) := by decide +kernel
theorem dX5_segmentEnd_35 : decode cX5_segmentEnd 35 = .ok (.iconst 1, 1) := by decide +kernel
theorem dX5_segmentEnd_36 : decode cX5_segmentEnd 36 = .ok (.iadd, 1) := by decide +kernel
theorem dX5_segmentEnd_37 : decode cX5_segmentEnd 37 = .ok (.istore_n 2, 1) := by decide +kernel
theorem dX5_segmentEnd_38 : decode cX5_segmentEnd 38 = .ok (.goto (-36), 3) := by decide +kernel
theorem dX5_segmentEnd_41 : decode cX5_segmentEnd 41 = .ok (.iload_n 2, 1) := by decide +kernel
theorem dX5_segmentEnd_42 : decode cX5_segmentEnd 42 = .ok (.ireturn, 1) := by decide +kernel
theorem dX5_partEnd_0 : decode cX5_partEnd 0 = .ok (.iload_n 1, 1) := by decide +kernel
theorem dX5_partEnd_1 : decode cX5_partEnd 1 = .ok (.istore_n 3, 1) := by decide +kernel
theorem dX5_partEnd_2 : decode cX5_partEnd 2 = .ok (.iload_n 3, 1) := by decide +kernel
theorem dX5_partEnd_3 : decode cX5_partEnd 3 = .ok (.iload_n 2, 1) := by decide +kernel
theorem dX5_partEnd_4 : decode cX5_partEnd 4 = .ok (.if_icmp .ge 34, 3) := by decide +kernel
theorem dX5_partEnd_7 : decode cX5_partEnd 7 = .ok (.aload_n 0, 1) := by decide +kernel
theorem dX5_partEnd_8 : decode cX5_partEnd 8 = .ok (.iload_n 3, 1) := by decide +kernel
theorem dX5_partEnd_9 : decode cX5_partEnd 9 = .ok (.invokevirtual 102, 3) := by decide +kernel
theorem dX5_partEnd_12 : decode cX5_partEnd 12 = .ok (.bipush 43, 2) := by decide +kernel
theorem dX5_partEnd_14 : decode cX5_partEnd 14 = .ok (.if_icmp .eq 24, 3) := by decide +kernel
theorem dX5_partEnd_17 : decode cX5_partEnd 17 = .ok (.iload_n 3, 1) := by decide +kernel
theorem dX5_partEnd_18 : decode cX5_partEnd 18 = .ok (.aload_n 0, 1) := by decide +kernel
theorem dX5_partEnd_19 : decode cX5_partEnd 19 = .ok (.iload_n 3, 1) := by decide +kernel
theorem dX5_partEnd_20 : decode cX5_partEnd 20 = .ok (.invokevirtual 102, 3) := by decide +kernel
theorem dX5_partEnd_23 : decode cX5_partEnd 23 = .ok (.bipush 63, 2) := by decide +kernel
theorem dX5_partEnd_25 : decode cX5_partEnd 25 = .ok (.if_icmp .ne 7, 3) := by decide +kernel
theorem dX5_partEnd_28 : decode cX5_partEnd 28 = .ok (.iconst 2, 1) := by decide +kernel
theorem dX5_partEnd_29 : decode cX5_partEnd 29 = .ok (.goto 4, 3) := by decide +kernel
theorem dX5_partEnd_32 : decode cX5_partEnd 32 = .ok (.iconst 1, 1) := by decide +kernel
theorem dX5_partEnd_33 : decode cX5_partEnd 33 = .ok (.iadd, 1) := by decide +kernel
theorem dX5_partEnd_34 : decode cX5_partEnd 34 = .ok (.istore_n 3, 1) := by decide +kernel
theorem dX5_partEnd_35 : decode cX5_partEnd 35 = .ok (.goto (-33), 3) := by decide +kernel
theorem dX5_partEnd_38 : decode cX5_partEnd 38 = .ok (.iload_n 3, 1) := by decide +kernel
theorem dX5_partEnd_39 : decode cX5_partEnd 39 = .ok (.ireturn, 1) := by decide +kernel
theorem dX5_checkEnvelope_0 : decode cX5_checkEnvelope 0 = .ok (.aload_n 1, 1) := by decide +kernel
theorem dX5_checkEnvelope_1 : decode cX5_checkEnvelope 1 = .ok (.iconst 0, 1) := by decide +kernel
theorem dX5_checkEnvelope_2 : decode cX5_checkEnvelope 2 = .ok (.invokevirtual 113, 3) := by decide +kernel
theorem dX5_checkEnvelope_5 : decode cX5_checkEnvelope 5 = .ok (.bipush 72, 2) := by decide +kernel
theorem dX5_checkEnvelope_7 : decode cX5_checkEnvelope 7 = .ok (.iconst 1, 1) := by decide +kernel
theorem dX5_checkEnvelope_8 : decode cX5_checkEnvelope 8 = .ok (.invokevirtual 116, 3) := by decide +kernel
theorem dX5_checkEnvelope_11 : decode cX5_checkEnvelope 11 = .ok (.ifCond .ne 13, 3) := by decide +kernel
theorem dX5_checkEnvelope_14 : decode cX5_checkEnvelope 14 = .ok (.aload_n 0, 1) := by decide +kernel
theorem dX5_checkEnvelope_15 : decode cX5_checkEnvelope 15 = .ok (.getfield 9, 3) := by decide +kernel
theorem dX5_checkEnvelope_18 : decode cX5_checkEnvelope 18 = .ok (.bipush 6, 2) := by decide +kernel
theorem dX5_checkEnvelope_20 : decode cX5_checkEnvelope 20 = .ok (.iconst 0, 1) := by decide +kernel
theorem dX5_checkEnvelope_21 : decode cX5_checkEnvelope 21 = .ok (.invokevirtual 59, 3) := by decide +kernel
theorem dX5_checkEnvelope_24 : decode cX5_checkEnvelope 24 = .ok (.aload_n 1, 1) := by decide +kernel
theorem dX5_checkEnvelope_25 : decode cX5_checkEnvelope 25 = .ok (.invokevirtual 54, 3) := by decide +kernel
theorem dX5_checkEnvelope_28 : decode cX5_checkEnvelope 28 = .ok (.iconst 2, 1) := by decide +kernel
theorem dX5_checkEnvelope_29 : decode cX5_checkEnvelope 29 = .ok (.if_icmp .lt 16, 3) := by decide +kernel
theorem dX5_checkEnvelope_32 : decode cX5_checkEnvelope 32 = .ok (.aload_n 1, 1) := by decide +kernel
theorem dX5_checkEnvelope_33 : decode cX5_checkEnvelope 33 = .ok (.invokevirtual 120, 3) := by decide +kernel
theorem dX5_checkEnvelope_36 : decode cX5_checkEnvelope 36 = .ok (.bipush 84, 2) := by decide +kernel
theorem dX5_checkEnvelope_38 : decode cX5_checkEnvelope 38 = .ok (.iconst 2, 1) := by decide +kernel
theorem dX5_checkEnvelope_39 : decode cX5_checkEnvelope 39 = .ok (.invokevirtual 116, 3) := by decide +kernel
theorem dX5_checkEnvelope_42 : decode cX5_checkEnvelope 42 = .ok (.ifCond .ne 19, 3) := by decide +kernel
theorem dX5_checkEnvelope_45 : decode cX5_checkEnvelope 45 = .ok (.aload_n 0, 1) := by decide +kernel
theorem dX5_checkEnvelope_46 : decode cX5_checkEnvelope 46 = .ok (.getfield 9, 3) := by decide +kernel
theorem dX5_checkEnvelope_49 : decode cX5_checkEnvelope 49 = .ok (.bipush 7, 2) := by decide +kernel
theorem dX5_checkEnvelope_51 : decode cX5_checkEnvelope 51 = .ok (.aload_n 1, 1) := by decide +kernel
theorem dX5_checkEnvelope_52 : decode cX5_checkEnvelope 52 = .ok (.invokevirtual 120, 3) := by decide +kernel
theorem dX5_checkEnvelope_55 : decode cX5_checkEnvelope 55 = .ok (.invokevirtual 123, 3) := by decide +kernel
theorem dX5_checkEnvelope_58 : decode cX5_checkEnvelope 58 = .ok (.invokevirtual 59, 3) := by decide +kernel
theorem dX5_checkEnvelope_61 : decode cX5_checkEnvelope 61 = .ok (.return_, 1) := by decide +kernel
theorem dX5_checkNumbers_0 : decode cX5_checkNumbers 0 = .ok (.aload_n 1, 1) := by decide +kernel
theorem dX5_checkNumbers_1 : decode cX5_checkNumbers 1 = .ok (.invokevirtual 120, 3) := by decide +kernel
theorem dX5_checkNumbers_4 : decode cX5_checkNumbers 4 = .ok (.astore 4, 2) := by decide +kernel
theorem dX5_checkNumbers_6 : decode cX5_checkNumbers 6 = .ok (.aload_n 1, 1) := by decide +kernel
theorem dX5_checkNumbers_7 : decode cX5_checkNumbers 7 = .ok (.invokevirtual 126, 3) := by decide +kernel
theorem dX5_checkNumbers_10 : decode cX5_checkNumbers 10 = .ok (.istore 5, 2) := by decide +kernel
theorem dX5_checkNumbers_12 : decode cX5_checkNumbers 12 = .ok (.iload_n 2, 1) := by decide +kernel
theorem dX5_checkNumbers_13 : decode cX5_checkNumbers 13 = .ok (.ifCond .eq 21, 3) := by decide +kernel
theorem dX5_checkNumbers_16 : decode cX5_checkNumbers 16 = .ok (.iload 5, 2) := by decide +kernel
theorem dX5_checkNumbers_18 : decode cX5_checkNumbers 18 = .ok (.iload_n 3, 1) := by decide +kernel
theorem dX5_checkNumbers_19 : decode cX5_checkNumbers 19 = .ok (.iconst 1, 1) := by decide +kernel
theorem dX5_checkNumbers_20 : decode cX5_checkNumbers 20 = .ok (.iadd, 1) := by decide +kernel
theorem dX5_checkNumbers_21 : decode cX5_checkNumbers 21 = .ok (.if_icmp .eq 13, 3) := by decide +kernel
theorem dX5_checkNumbers_24 : decode cX5_checkNumbers 24 = .ok (.aload_n 0, 1) := by decide +kernel
theorem dX5_checkNumbers_25 : decode cX5_checkNumbers 25 = .ok (.getfield 9, 3) := by decide +kernel
theorem dX5_checkNumbers_28 : decode cX5_checkNumbers 28 = .ok (.bipush 10, 2) := by decide +kernel
theorem dX5_checkNumbers_30 : decode cX5_checkNumbers 30 = .ok (.iconst 0, 1) := by decide +kernel
theorem dX5_checkNumbers_31 : decode cX5_checkNumbers 31 = .ok (.invokevirtual 59, 3) := by decide +kernel
theorem dX5_checkNumbers_34 : decode cX5_checkNumbers 34 = .ok (.aload 4, 2) := by decide +kernel
theorem dX5_checkNumbers_36 : decode cX5_checkNumbers 36 = .ok (.iconst 0, 1) := by decide +kernel
theorem dX5_checkNumbers_37 : decode cX5_checkNumbers 37 = .ok (.invokevirtual 129, 3) := by decide +kernel
theorem dX5_checkNumbers_40 : decode cX5_checkNumbers 40 = .ok (.aload_n 1, 1) := by decide +kernel
theorem dX5_checkNumbers_41 : decode cX5_checkNumbers 41 = .ok (.invokevirtual 54, 3) := by decide +kernel
theorem dX5_checkNumbers_44 : decode cX5_checkNumbers 44 = .ok (.if_icmp .eq 17, 3) := by decide +kernel
theorem dX5_checkNumbers_47 : decode cX5_checkNumbers 47 = .ok (.aload_n 0, 1) := by decide +kernel
theorem dX5_checkNumbers_48 : decode cX5_checkNumbers 48 = .ok (.getfield 9, 3) := by decide +kernel
theorem dX5_checkNumbers_51 : decode cX5_checkNumbers 51 = .ok (.bipush 8, 2) := by decide +kernel
theorem dX5_checkNumbers_53 : decode cX5_checkNumbers 53 = .ok (.aload 4, 2) := by decide +kernel
theorem dX5_checkNumbers_55 : decode cX5_checkNumbers 55 = .ok (.invokevirtual 123, 3) := by decide +kernel
theorem dX5_checkNumbers_58 : decode cX5_checkNumbers 58 = .ok (.invokevirtual 59, 3) := by decide +kernel
theorem dX5_checkNumbers_61 : decode cX5_checkNumbers 61 = .ok (.aload 4, 2) := by decide +kernel
theorem dX5_checkNumbers_63 : decode cX5_checkNumbers 63 = .ok (.iconst 1, 1) := by decide +kernel
theorem dX5_checkNumbers_64 : decode cX5_checkNumbers 64 = .ok (.invokevirtual 129, 3) := by decide +kernel
theorem dX5_checkNumbers_67 : decode cX5_checkNumbers 67 = .ok (.iload 5, 2) := by decide +kernel
theorem dX5_checkNumbers_69 : decode cX5_checkNumbers 69 = .ok (.if_icmp .eq 17, 3) := by decide +kernel
theorem dX5_checkNumbers_72 : decode cX5_checkNumbers 72 = .ok (.aload_n 0, 1) := by decide +kernel
theorem dX5_checkNumbers_73 : decode cX5_checkNumbers 73 = .ok (.getfield 9, 3) := by decide +kernel
theorem dX5_checkNumbers_76 : decode cX5_checkNumbers 76 = .ok (.bipush 9, 2) := by decide +kernel
theorem dX5_checkNumbers_78 : decode cX5_checkNumbers 78 = .ok (.aload 4, 2) := by decide +kernel
theorem dX5_checkNumbers_80 : decode cX5_checkNumbers 80 = .ok (.invokevirtual 123, 3) := by decide +kernel
theorem dX5_checkNumbers_83 : decode cX5_checkNumbers 83 = .ok (.invokevirtual 59, 3) := by decide +kernel
theorem dX5_checkNumbers_86 : decode cX5_checkNumbers 86 = .ok (.return_, 1) := by decide +kernel
theorem dX5_checkBody_0 : decode cX5_checkBody 0 = .ok (.aload_n 0, 1) := by decide +kernel
theorem dX5_checkBody_1 : decode cX5_checkBody 1 = .ok (.getfield 20, 3) := by decide +kernel
theorem dX5_checkBody_4 : decode cX5_checkBody 4 = .ok (.aload_n 1, 1) := by decide +kernel
theorem dX5_checkBody_5 : decode cX5_checkBody 5 = .ok (.invokevirtual 132, 3) := by decide +kernel
theorem dX5_checkBody_8 : decode cX5_checkBody 8 = .ok (.ifCond .eq 12, 3) := by decide +kernel
theorem dX5_checkBody_11 : decode cX5_checkBody 11 = .ok (.aload_n 0, 1) := by decide +kernel
theorem dX5_checkBody_12 : decode cX5_checkBody 12 = .ok (.getfield 20, 3) := by decide +kernel
theorem dX5_checkBody_15 : decode cX5_checkBody 15 = .ok (.aload_n 1, 1) := by decide +kernel
theorem dX5_checkBody_16 : decode cX5_checkBody 16 = .ok (.invokevirtual 136, 3) := by decide +kernel
theorem dX5_checkBody_19 : decode cX5_checkBody 19 = .ok (.return_, 1) := by decide +kernel
theorem dX5_checkBody_20 : decode cX5_checkBody 20 = .ok (.aload_n 0, 1) := by decide +kernel
theorem dX5_checkBody_21 : decode cX5_checkBody 21 = .ok (.getfield 20, 3) := by decide +kernel
theorem dX5_checkBody_24 : decode cX5_checkBody 24 = .ok (.aload_n 1, 1) := by decide +kernel
theorem dX5_checkBody_25 : decode cX5_checkBody 25 = .ok (.invokevirtual 139, 3) := by decide +kernel
theorem dX5_checkBody_28 : decode cX5_checkBody 28 = .ok (.istore_n 2, 1) := by decide +kernel
theorem dX5_checkBody_29 : decode cX5_checkBody 29 = .ok (.iload_n 2, 1) := by decide +kernel
theorem dX5_checkBody_30 : decode cX5_checkBody 30 = .ok (.aload_n 1, 1) := by decide +kernel
theorem dX5_checkBody_31 : decode cX5_checkBody 31 = .ok (.invokevirtual 143, 3) := by decide +kernel
theorem dX5_checkBody_34 : decode cX5_checkBody 34 = .ok (.if_icmp .ge 23, 3) := by decide +kernel
theorem dX5_checkBody_37 : decode cX5_checkBody 37 = .ok (.aload_n 0, 1) := by decide +kernel
theorem dX5_checkBody_38 : decode cX5_checkBody 38 = .ok (.getfield 9, 3) := by decide +kernel
theorem dX5_checkBody_41 : decode cX5_checkBody 41 = .ok (.bipush 11, 2) := by decide +kernel
theorem dX5_checkBody_43 : decode cX5_checkBody 43 = .ok (.aload_n 1, 1) := by decide +kernel
theorem dX5_checkBody_44 : decode cX5_checkBody 44 = .ok (.iload_n 2, 1) := by decide +kernel
theorem dX5_checkBody_45 : decode cX5_checkBody 45 = .ok (.invokevirtual 146, 3) := by decide +kernel
theorem dX5_checkBody_48 : decode cX5_checkBody 48 = .ok (.invokevirtual 123, 3) := by decide +kernel
theorem dX5_checkBody_51 : decode cX5_checkBody 51 = .ok (.invokevirtual 59, 3) := by decide +kernel
theorem dX5_checkBody_54 : decode cX5_checkBody 54 = .ok (.goto 19, 3) := by decide +kernel
theorem dX5_checkBody_57 : decode cX5_checkBody 57 = .ok (.aload_n 0, 1) := by decide +kernel
theorem dX5_checkBody_58 : decode cX5_checkBody 58 = .ok (.getfield 9, 3) := by decide +kernel
theorem dX5_checkBody_61 : decode cX5_checkBody 61 = .ok (.bipush 12, 2) := by decide +kernel
theorem dX5_checkBody_63 : decode cX5_checkBody 63 = .ok (.aload_n 1, 1) := by decide +kernel
theorem dX5_checkBody_64 : decode cX5_checkBody 64 = .ok (.invokevirtual 120, 3) := by decide +kernel
theorem dX5_checkBody_67 : decode cX5_checkBody 67 = .ok (.invokevirtual 123, 3) := by decide +kernel
theorem dX5_checkBody_70 : decode cX5_checkBody 70 = .ok (.invokevirtual 59, 3) := by decide +kernel
theorem dX5_checkBody_73 : decode cX5_checkBody 73 = .ok (.return_, 1) := by decide +kernel
theorem dX6_init_0 : decode cX6_init 0 = .ok (.aload_n 0, 1) := by decide +kernel
theorem dX6_init_1 : decode cX6_init 1 = .ok (.invokespecial 3, 3) := by decide +kernel
theorem dX6_init_4 : decode cX6_init 4 = .ok (.aload_n 0, 1) := by decide +kernel
theorem dX6_init_5 : decode cX6_init 5 = .ok (.iconst 5, 1) := by decide +kernel
theorem dX6_init_6 : decode cX6_init 6 = .ok (.newarray .int, 2) := by decide +kernel
theorem dX6_init_8 : decode cX6_init 8 = .ok (.putfield 9, 3) := by decide +kernel
theorem dX6_init_11 : decode cX6_init 11 = .ok (.return_, 1) := by decide +kernel
theorem dX6_begin_0 : decode cX6_begin 0 = .ok (.aload_n 0, 1) := by decide +kernel
theorem dX6_begin_1 : decode cX6_begin 1 = .ok (.iload_n 1, 1) := by decide +kernel
theorem dX6_begin_2 : decode cX6_begin 2 = .ok (.putfield 15, 3) := by decide +kernel
theorem dX6_begin_5 : decode cX6_begin 5 = .ok (.aload_n 0, 1) := by decide +kernel
theorem dX6_begin_6 : decode cX6_begin 6 = .ok (.iload_n 2, 1) := by decide +kernel
theorem dX6_begin_7 : decode cX6_begin 7 = .ok (.putfield 19, 3) := by decide +kernel
theorem dX6_begin_10 : decode cX6_begin 10 = .ok (.aload_n 0, 1) := by decide +kernel
theorem dX6_begin_11 : decode cX6_begin 11 = .ok (.iconst 0, 1) := by decide +kernel
theorem dX6_begin_12 : decode cX6_begin 12 = .ok (.putfield 23, 3) := by decide +kernel
theorem dX6_begin_15 : decode cX6_begin 15 = .ok (.aload_n 0, 1) := by decide +kernel
theorem dX6_begin_16 : decode cX6_begin 16 = .ok (.iconst (-1), 1) := by decide +kernel
theorem dX6_begin_17 : decode cX6_begin 17 = .ok (.putfield 26, 3) := by decide +kernel
theorem dX6_begin_20 : decode cX6_begin 20 = .ok (.return_, 1) := by decide +kernel
theorem dX6_fieldCount_0 : decode cX6_fieldCount 0 = .ok (.aload_n 0, 1) := by decide +kernel
theorem dX6_fieldCount_1 : decode cX6_fieldCount 1 = .ok (.getfield 23, 3) := by decide +kernel
theorem dX6_fieldCount_4 : decode cX6_fieldCount 4 = .ok (.ireturn, 1) := by decide +kernel
theorem dX6_appendField_0 : decode cX6_appendField 0 = .ok (.aload_n 0, 1) := by decide +kernel
theorem dX6_appendField_1 : decode cX6_appendField 1 = .ok (.getfield 23, 3) := by decide +kernel
theorem dX6_appendField_4 : decode cX6_appendField 4 = .ok (.iconst 5, 1) := by decide +kernel
theorem dX6_appendField_5 : decode cX6_appendField 5 = .ok (.if_icmp .ge 23, 3) := by decide +kernel
theorem dX6_appendField_8 : decode cX6_appendField 8 = .ok (.aload_n 0, 1) := by decide +kernel
theorem dX6_appendField_9 : decode cX6_appendField 9 = .ok (.getfield 9, 3) := by decide +kernel
theorem dX6_appendField_12 : decode cX6_appendField 12 = .ok (.aload_n 0, 1) := by decide +kernel
theorem dX6_appendField_13 : decode cX6_appendField 13 = .ok (.getfield 23, 3) := by decide +kernel
theorem dX6_appendField_16 : decode cX6_appendField 16 = .ok (.iload_n 1, 1) := by decide +kernel
theorem dX6_appendField_17 : decode cX6_appendField 17 = .ok (.iastore, 1) := by decide +kernel
theorem dX6_appendField_18 : decode cX6_appendField 18 = .ok (.aload_n 0, 1) := by decide +kernel
theorem dX6_appendField_19 : decode cX6_appendField 19 = .ok (.dup, 1) := by decide +kernel
theorem dX6_appendField_20 : decode cX6_appendField 20 = .ok (.getfield 23, 3) := by decide +kernel
theorem dX6_appendField_23 : decode cX6_appendField 23 = .ok (.iconst 1, 1) := by decide +kernel
theorem dX6_appendField_24 : decode cX6_appendField 24 = .ok (.iadd, 1) := by decide +kernel
theorem dX6_appendField_25 : decode cX6_appendField 25 = .ok (.putfield 23, 3) := by decide +kernel
theorem dX6_appendField_28 : decode cX6_appendField 28 = .ok (.aload_n 0, 1) := by decide +kernel
theorem dX6_appendField_29 : decode cX6_appendField 29 = .ok (.getfield 23, 3) := by decide +kernel
theorem dX6_appendField_32 : decode cX6_appendField 32 = .ok (.ireturn, 1) := by decide +kernel
theorem dX6_restrict_0 : decode cX6_restrict 0 = .ok (.aload_n 0, 1) := by decide +kernel
theorem dX6_restrict_1 : decode cX6_restrict 1 = .ok (.iload_n 1, 1) := by decide +kernel
theorem dX6_restrict_2 : decode cX6_restrict 2 = .ok (.putfield 26, 3) := by decide +kernel
theorem dX6_restrict_5 : decode cX6_restrict 5 = .ok (.aload_n 0, 1) := by decide +kernel
theorem dX6_restrict_6 : decode cX6_restrict 6 = .ok (.iload_n 2, 1) := by decide +kernel
theorem dX6_restrict_7 : decode cX6_restrict 7 = .ok (.putfield 29, 3) := by decide +kernel
theorem dX6_restrict_10 : decode cX6_restrict 10 = .ok (.return_, 1) := by decide +kernel
theorem dX6_appliesTo_0 : decode cX6_appliesTo 0 = .ok (.aload_n 1, 1) := by decide +kernel
theorem dX6_appliesTo_1 : decode cX6_appliesTo 1 = .ok (.invokevirtual 32, 3) := by decide +kernel
theorem dX6_appliesTo_4 : decode cX6_appliesTo 4 = .ok (.aload_n 0, 1) := by decide +kernel
theorem dX6_appliesTo_5 : decode cX6_appliesTo 5 = .ok (.getfield 15, 3) := by decide +kernel
theorem dX6_appliesTo_8 : decode cX6_appliesTo 8 = .ok (.if_icmp .ne 23, 3) := by decide +kernel
theorem dX6_appliesTo_11 : decode cX6_appliesTo 11 = .ok (.aload_n 0, 1) := by decide +kernel
theorem dX6_appliesTo_12 : decode cX6_appliesTo 12 = .ok (.getfield 26, 3) := by decide +kernel
theorem dX6_appliesTo_15 : decode cX6_appliesTo 15 = .ok (.iconst (-1), 1) := by decide +kernel
theorem dX6_appliesTo_16 : decode cX6_appliesTo 16 = .ok (.if_icmp .eq 11, 3) := by decide +kernel
theorem dX6_appliesTo_19 : decode cX6_appliesTo 19 = .ok (.aload_n 0, 1) := by decide +kernel
theorem dX6_appliesTo_20 : decode cX6_appliesTo 20 = .ok (.aload_n 1, 1) := by decide +kernel
theorem dX6_appliesTo_21 : decode cX6_appliesTo 21 = .ok (.invokevirtual 37, 3) := by decide +kernel
theorem dX6_appliesTo_24 : decode cX6_appliesTo 24 = .ok (.ifCond .eq 7, 3) := by decide +kernel
theorem dX6_appliesTo_27 : decode cX6_appliesTo 27 = .ok (.iconst 1, 1) := by decide +kernel
theorem dX6_appliesTo_28 : decode cX6_appliesTo 28 = .ok (.goto 4, 3) := by decide +kernel
theorem dX6_appliesTo_31 : decode cX6_appliesTo 31 = .ok (.iconst 0, 1) := by decide +kernel
theorem dX6_appliesTo_32 : decode cX6_appliesTo 32 = .ok (.ireturn, 1) := by decide +kernel
theorem dX6_holdsFor_0 : decode cX6_holdsFor 0 = .ok (.aload_n 1, 1) := by decide +kernel
theorem dX6_holdsFor_1 : decode cX6_holdsFor 1 = .ok (.aload_n 0, 1) := by decide +kernel
theorem dX6_holdsFor_2 : decode cX6_holdsFor 2 = .ok (.getfield 26, 3) := by decide +kernel
theorem dX6_holdsFor_5 : decode cX6_holdsFor 5 = .ok (.invokevirtual 41, 3) := by decide +kernel
theorem dX6_holdsFor_8 : decode cX6_holdsFor 8 = .ok (.ifCond .le 23, 3) := by decide +kernel
theorem dX6_holdsFor_11 : decode cX6_holdsFor 11 = .ok (.aload_n 1, 1) := by decide +kernel
theorem dX6_holdsFor_12 : decode cX6_holdsFor 12 = .ok (.aload_n 0, 1) := by decide +kernel
theorem dX6_holdsFor_13 : decode cX6_holdsFor 13 = .ok (.getfield 26, 3) := by decide +kernel
theorem dX6_holdsFor_16 : decode cX6_holdsFor 16 = .ok (.iconst 0, 1) := by decide +kernel
theorem dX6_holdsFor_17 : decode cX6_holdsFor 17 = .ok (.invokevirtual 45, 3) := by decide +kernel
theorem dX6_holdsFor_20 : decode cX6_holdsFor 20 = .ok (.aload_n 0, 1) := by decide +kernel
theorem dX6_holdsFor_21 : decode cX6_holdsFor 21 = .ok (.getfield 29, 3) := by decide +kernel
theorem dX6_holdsFor_24 : decode cX6_holdsFor 24 = .ok (.if_icmp .ne 7, 3) := by decide +kernel
theorem dX6_holdsFor_27 : decode cX6_holdsFor 27 = .ok (.iconst 1, 1) := by decide +kernel
theorem dX6_holdsFor_28 : decode cX6_holdsFor 28 = .ok (.goto 4, 3) := by decide +kernel
theorem dX6_holdsFor_31 : decode cX6_holdsFor 31 = .ok (.iconst 0, 1) := by decide +kernel
theorem dX6_holdsFor_32 : decode cX6_holdsFor 32 = .ok (.ireturn, 1) := by decide +kernel
theorem dX6_translate_0 : decode cX6_translate 0 = .ok (.aload_n 2, 1) := by decide +kernel
theorem dX6_translate_1 : decode cX6_translate 1 = .ok (.aload_n 0, 1) := by decide +kernel
theorem dX6_translate_2 : decode cX6_translate 2 = .ok (.getfield 19, 3) := by decide +kernel
theorem dX6_translate_5 : decode cX6_translate 5 = .ok (.invokevirtual 49, 3) := by decide +kernel
theorem dX6_translate_8 : decode cX6_translate 8 = .ok (.iconst 0, 1) := by decide +kernel
theorem dX6_translate_9 : decode cX6_translate 9 = .ok (.istore_n 3, 1) := by decide +kernel
theorem dX6_translate_10 : decode cX6_translate 10 = .ok (.iload_n 3, 1) := by decide +kernel
theorem dX6_translate_11 : decode cX6_translate 11 = .ok (.aload_n 0, 1) := by decide +kernel
theorem dX6_translate_12 : decode cX6_translate 12 = .ok (.getfield 23, 3) := by decide +kernel
theorem dX6_translate_15 : decode cX6_translate 15 = .ok (.if_icmp .ge 55, 3) := by decide +kernel
theorem dX6_translate_18 : decode cX6_translate 18 = .ok (.aload_n 0, 1) := by decide +kernel
theorem dX6_translate_19 : decode cX6_translate 19 = .ok (.getfield 9, 3) := by decide +kernel
theorem dX6_translate_22 : decode cX6_translate 22 = .ok (.iload_n 3, 1) := by decide +kernel
theorem dX6_translate_23 : decode cX6_translate 23 = .ok (.iaload, 1) := by decide +kernel
theorem dX6_translate_24 : decode cX6_translate 24 = .ok (.istore 4, 2) := by decide +kernel
theorem dX6_translate_26 : decode cX6_translate 26 = .ok (.aload_n 2, 1) := by decide +kernel
theorem dX6_translate_27 : decode cX6_translate 27 = .ok (.bipush 43, 2) := by decide +kernel
theorem dX6_translate_29 : decode cX6_translate 29 = .ok (.invokevirtual 49, 3) := by decide +kernel
theorem dX6_translate_32 : decode cX6_translate 32 = .ok (.iconst 0, 1) := by decide +kernel
theorem dX6_translate_33 : decode cX6_translate 33 = .ok (.istore 5, 2) := by decide +kernel
theorem dX6_translate_35 : decode cX6_translate 35 = .ok (.iload 5, 2) := by decide +kernel
theorem dX6_translate_37 : decode cX6_translate 37 = .ok (.aload_n 1, 1) := by decide +kernel
theorem dX6_translate_38 : decode cX6_translate 38 = .ok (.iload 4, 2) := by decide +kernel
theorem dX6_translate_40 : decode cX6_translate 40 = .ok (.invokevirtual 41, 3) := by decide +kernel
theorem dX6_translate_43 : decode cX6_translate 43 = .ok (.if_icmp .ge 21, 3) := by decide +kernel
theorem dX6_translate_46 : decode cX6_translate 46 = .ok (.aload_n 2, 1) := by decide +kernel
theorem dX6_translate_47 : decode cX6_translate 47 = .ok (.aload_n 1, 1) := by decide +kernel
theorem dX6_translate_48 : decode cX6_translate 48 = .ok (.iload 4, 2) := by decide +kernel
theorem dX6_translate_50 : decode cX6_translate 50 = .ok (.iload 5, 2) := by decide +kernel
theorem dX6_translate_52 : decode cX6_translate 52 = .ok (.invokevirtual 45, 3) := by decide +kernel
theorem dX6_translate_55 : decode cX6_translate 55 = .ok (.invokevirtual 55, 3) := by decide +kernel
theorem dX6_translate_58 : decode cX6_translate 58 = .ok (.iinc 5 1, 3) := by decide +kernel
theorem dX6_translate_61 : decode cX6_translate 61 = .ok (.goto (-26), 3) := by decide +kernel
theorem dX6_translate_64 : decode cX6_translate 64 = .ok (.iinc 3 1, 3) := by decide +kernel
theorem dX6_translate_67 : decode cX6_translate 67 = .ok (.goto (-57), 3) := by decide +kernel
theorem dX6_translate_70 : decode cX6_translate 70 = .ok (.aload_n 2, 1) := by decide +kernel
theorem dX6_translate_71 : decode cX6_translate 71 = .ok (.bipush 39, 2) := by decide +kernel
theorem dX6_translate_73 : decode cX6_translate 73 = .ok (.invokevirtual 49, 3) := by decide +kernel
theorem dX6_translate_76 : decode cX6_translate 76 = .ok (.return_, 1) := by decide +kernel
theorem dX7_init_0 : decode cX7_init 0 = .ok (.aload_n 0, 1) := by decide +kernel
theorem dX7_init_1 : decode cX7_init 1 = .ok (.invokespecial 3, 3) := by decide +kernel
theorem dX7_init_4 : decode cX7_init 4 = .ok (.aload_n 0, 1) := by decide +kernel
theorem dX7_init_5 : decode cX7_init 5 = .ok (.bipush 10, 2) := by decide +kernel
theorem dX7_init_7 : decode cX7_init 7 = .ok (.anewarray 9, 3) := by decide +kernel
theorem dX7_init_10 : decode cX7_init 10 = .ok (.putfield 11, 3) := by decide +kernel
theorem dX7_init_13 : decode cX7_init 13 = .ok (.aload_n 0, 1) := by decide +kernel
theorem dX7_init_14 : decode cX7_init 14 = .ok (.new 9, 3) := by decide +kernel
theorem dX7_init_17 : decode cX7_init 17 = .ok (.dup, 1) := by decide +kernel
theorem dX7_init_18 : decode cX7_init 18 = .ok (.invokespecial 17, 3) := by decide +kernel
theorem dX7_init_21 : decode cX7_init 21 = .ok (.putfield 18, 3) := by decide +kernel
theorem dX7_init_24 : decode cX7_init 24 = .ok (.iconst 0, 1) := by decide +kernel
theorem dX7_init_25 : decode cX7_init 25 = .ok (.istore_n 1, 1) := by decide +kernel
theorem dX7_init_26 : decode cX7_init 26 = .ok (.iload_n 1, 1) := by decide +kernel
theorem dX7_init_27 : decode cX7_init 27 = .ok (.bipush 10, 2) := by decide +kernel
theorem dX7_init_29 : decode cX7_init 29 = .ok (.if_icmp .ge 22, 3) := by decide +kernel
theorem dX7_init_32 : decode cX7_init 32 = .ok (.aload_n 0, 1) := by decide +kernel
theorem dX7_init_33 : decode cX7_init 33 = .ok (.getfield 11, 3) := by decide +kernel
theorem dX7_init_36 : decode cX7_init 36 = .ok (.iload_n 1, 1) := by decide +kernel
theorem dX7_init_37 : decode cX7_init 37 = .ok (.new 9, 3) := by decide +kernel
theorem dX7_init_40 : decode cX7_init 40 = .ok (.dup, 1) := by decide +kernel
theorem dX7_init_41 : decode cX7_init 41 = .ok (.invokespecial 17, 3) := by decide +kernel
theorem dX7_init_44 : decode cX7_init 44 = .ok (.aastore, 1) := by decide +kernel
theorem dX7_init_45 : decode cX7_init 45 = .ok (.iinc 1 1, 3) := by decide +kernel
theorem dX7_init_48 : decode cX7_init 48 = .ok (.goto (-22), 3) := by decide +kernel
theorem dX7_init_51 : decode cX7_init 51 = .ok (.return_, 1) := by decide +kernel
theorem dX7_wipe_0 : decode cX7_wipe 0 = .ok (.aload_n 0, 1) := by decide +kernel
theorem dX7_wipe_1 : decode cX7_wipe 1 = .ok (.iconst 0, 1) := by decide +kernel
theorem dX7_wipe_2 : decode cX7_wipe 2 = .ok (.putfield 22, 3) := by decide +kernel
theorem dX7_wipe_5 : decode cX7_wipe 5 = .ok (.return_, 1) := by decide +kernel
theorem dX7_count_0 : decode cX7_count 0 = .ok (.aload_n 0, 1) := by decide +kernel
theorem dX7_count_1 : decode cX7_count 1 = .ok (.getfield 22, 3) := by decide +kernel
theorem dX7_count_4 : decode cX7_count 4 = .ok (.ireturn, 1) := by decide +kernel
theorem dX7_at_0 : decode cX7_at 0 = .ok (.iload_n 1, 1) := by decide +kernel
theorem dX7_at_1 : decode cX7_at 1 = .ok (.ifCond .lt 20, 3) := by decide +kernel
theorem dX7_at_4 : decode cX7_at 4 = .ok (.iload_n 1, 1) := by decide +kernel
theorem dX7_at_5 : decode cX7_at 5 = .ok (.aload_n 0, 1) := by decide +kernel
theorem dX7_at_6 : decode cX7_at 6 = .ok (.getfield 22, 3) := by decide +kernel
theorem dX7_at_9 : decode cX7_at 9 = .ok (.if_icmp .ge 12, 3) := by decide +kernel
theorem dX7_at_12 : decode cX7_at 12 = .ok (.aload_n 0, 1) := by decide +kernel
theorem dX7_at_13 : decode cX7_at 13 = .ok (.getfield 11, 3) := by decide +kernel
theorem dX7_at_16 : decode cX7_at 16 = .ok (.iload_n 1, 1) := by decide +kernel
theorem dX7_at_17 : decode cX7_at 17 = .ok (.aaload, 1) := by decide +kernel
theorem dX7_at_18 : decode cX7_at 18 = .ok (.goto 7, 3) := by decide +kernel
theorem dX7_at_21 : decode cX7_at 21 = .ok (.aload_n 0, 1) := by decide +kernel
theorem dX7_at_22 : decode cX7_at 22 = .ok (.getfield 18, 3) := by decide +kernel
theorem dX7_at_25 : decode cX7_at 25 = .ok (.areturn, 1) := by decide +kernel
theorem dX7_append_0 : decode cX7_append 0 = .ok (.aload_n 0, 1) := by decide +kernel
theorem dX7_append_1 : decode cX7_append 1 = .ok (.getfield 22, 3) := by decide +kernel
theorem dX7_append_4 : decode cX7_append 4 = .ok (.bipush 10, 2) := by decide +kernel
theorem dX7_append_6 : decode cX7_append 6 = .ok (.if_icmp .lt 8, 3) := by decide +kernel
theorem dX7_append_9 : decode cX7_append 9 = .ok (.aload_n 0, 1) := by decide +kernel
theorem dX7_append_10 : decode cX7_append 10 = .ok (.getfield 22, 3) := by decide +kernel
theorem dX7_append_13 : decode cX7_append 13 = .ok (.ireturn, 1) := by decide +kernel
theorem dX7_append_14 : decode cX7_append 14 = .ok (.aload_n 0, 1) := by decide +kernel
theorem dX7_append_15 : decode cX7_append 15 = .ok (.getfield 11, 3) := by decide +kernel
theorem dX7_append_18 : decode cX7_append 18 = .ok (.aload_n 0, 1) := by decide +kernel
theorem dX7_append_19 : decode cX7_append 19 = .ok (.getfield 22, 3) := by decide +kernel
theorem dX7_append_22 : decode cX7_append 22 = .ok (.aaload, 1) := by decide +kernel
theorem dX7_append_23 : decode cX7_append 23 = .ok (.iload_n 1, 1) := by decide +kernel
theorem dX7_append_24 : decode cX7_append 24 = .ok (.iload_n 2, 1) := by decide +kernel
theorem dX7_append_25 : decode cX7_append 25 = .ok (.invokevirtual 26, 3) := by decide +kernel
theorem dX7_append_28 : decode cX7_append 28 = .ok (.aload_n 0, 1) := by decide +kernel
theorem dX7_append_29 : decode cX7_append 29 = .ok (.dup, 1) := by decide +kernel
theorem dX7_append_30 : decode cX7_append 30 = .ok (.getfield 22, 3) := by decide +kernel
theorem dX7_append_33 : decode cX7_append 33 = .ok (.iconst 1, 1) := by decide +kernel
theorem dX7_append_34 : decode cX7_append 34 = .ok (.iadd, 1) := by decide +kernel
theorem dX7_append_35 : decode cX7_append 35 = .ok (.putfield 22, 3) := by decide +kernel
theorem dX7_append_38 : decode cX7_append 38 = .ok (.aload_n 0, 1) := by decide +kernel
theorem dX7_append_39 : decode cX7_append 39 = .ok (.getfield 22, 3) := by decide +kernel
theorem dX7_append_42 : decode cX7_append 42 = .ok (.iconst 1, 1) := by decide +kernel
theorem dX7_append_43 : decode cX7_append 43 = .ok (.isub, 1) := by decide +kernel
theorem dX7_append_44 : decode cX7_append 44 = .ok (.ireturn, 1) := by decide +kernel
theorem dX7_translate_0 : decode cX7_translate 0 = .ok (.aload_n 3, 1) := by decide +kernel
theorem dX7_translate_1 : decode cX7_translate 1 = .ok (.invokevirtual 30, 3) := by decide +kernel
theorem dX7_translate_4 : decode cX7_translate 4 = .ok (.iload_n 2, 1) := by decide +kernel
theorem dX7_translate_5 : decode cX7_translate 5 = .ok (.aload_n 3, 1) := by decide +kernel
theorem dX7_translate_6 : decode cX7_translate 6 = .ok (.invokestatic 35, 3) := by decide +kernel
theorem dX7_translate_9 : decode cX7_translate 9 = .ok (.iconst 2, 1) := by decide +kernel
theorem dX7_translate_10 : decode cX7_translate 10 = .ok (.aload_n 0, 1) := by decide +kernel
theorem dX7_translate_11 : decode cX7_translate 11 = .ok (.aload_n 1, 1) := by decide +kernel
theorem dX7_translate_12 : decode cX7_translate 12 = .ok (.aload_n 3, 1) := by decide +kernel
theorem dX7_translate_13 : decode cX7_translate 13 = .ok (.invokevirtual 39, 3) := by decide +kernel
theorem dX7_translate_16 : decode cX7_translate 16 = .ok (.iadd, 1) := by decide +kernel
theorem dX7_translate_17 : decode cX7_translate 17 = .ok (.istore 4, 2) := by decide +kernel
theorem dX7_translate_19 : decode cX7_translate 19 = .ok (.iload 4, 2) := by decide +kernel
theorem dX7_translate_21 : decode cX7_translate 21 = .ok (.iload_n 2, 1) := by decide +kernel
theorem dX7_translate_22 : decode cX7_translate 22 = .ok (.aload_n 3, 1) := by decide +kernel
theorem dX7_translate_23 : decode cX7_translate 23 = .ok (.invokestatic 43, 3) := by decide +kernel
theorem dX7_translate_26 : decode cX7_translate 26 = .ok (.iload 4, 2) := by decide +kernel
theorem dX7_translate_28 : decode cX7_translate 28 = .ok (.bipush 20, 2) := by decide +kernel
theorem dX7_translate_30 : decode cX7_translate 30 = .ok (.if_icmp .gt 14, 3) := by decide +kernel
theorem dX7_translate_33 : decode cX7_translate 33 = .ok (.aload_n 3, 1) := by decide +kernel
theorem dX7_translate_34 : decode cX7_translate 34 = .ok (.invokevirtual 47, 3) := by decide +kernel
theorem dX7_translate_37 : decode cX7_translate 37 = .ok (.ifCond .ne 7, 3) := by decide +kernel
theorem dX7_translate_40 : decode cX7_translate 40 = .ok (.iconst 1, 1) := by decide +kernel
theorem dX7_translate_41 : decode cX7_translate 41 = .ok (.goto 4, 3) := by decide +kernel
theorem dX7_translate_44 : decode cX7_translate 44 = .ok (.iconst 0, 1) := by decide +kernel
theorem dX7_translate_45 : decode cX7_translate 45 = .ok (.ireturn, 1) := by decide +kernel
theorem dX7_putHeader_0 : decode cX7_putHeader 0 = .ok (.aload_n 1, 1) := by decide +kernel
theorem dX7_putHeader_1 : decode cX7_putHeader 1 = .ok (.bipush 72, 2) := by decide +kernel
theorem dX7_putHeader_3 : decode cX7_putHeader 3 = .ok (.invokevirtual 51, 3) := by decide +kernel
theorem dX7_putHeader_6 : decode cX7_putHeader 6 = .ok (.aload_n 1, 1) := by decide +kernel
theorem dX7_putHeader_7 : decode cX7_putHeader 7 = .ok (.bipush 43, 2) := by decide +kernel
theorem dX7_putHeader_9 : decode cX7_putHeader 9 = .ok (.invokevirtual 51, 3) := by decide +kernel
theorem dX7_putHeader_12 : decode cX7_putHeader 12 = .ok (.aload_n 1, 1) := by decide +kernel
theorem dX7_putHeader_13 : decode cX7_putHeader 13 = .ok (.iload_n 0, 1) := by decide +kernel
theorem dX7_putHeader_14 : decode cX7_putHeader 14 = .ok (.invokevirtual 55, 3) := by decide +kernel
theorem dX7_putHeader_17 : decode cX7_putHeader 17 = .ok (.aload_n 1, 1) := by decide +kernel
theorem dX7_putHeader_18 : decode cX7_putHeader 18 = .ok (.bipush 39, 2) := by decide +kernel
theorem dX7_putHeader_20 : decode cX7_putHeader 20 = .ok (.invokevirtual 51, 3) := by decide +kernel
theorem dX7_putHeader_23 : decode cX7_putHeader 23 = .ok (.return_, 1) := by decide +kernel
theorem dX7_putBody_0 : decode cX7_putBody 0 = .ok (.iconst 0, 1) := by decide +kernel
theorem dX7_putBody_1 : decode cX7_putBody 1 = .ok (.istore_n 3, 1) := by decide +kernel
theorem dX7_putBody_2 : decode cX7_putBody 2 = .ok (.iconst 0, 1) := by decide +kernel
theorem dX7_putBody_3 : decode cX7_putBody 3 = .ok (.istore 4, 2) := by decide +kernel
theorem dX7_putBody_5 : decode cX7_putBody 5 = .ok (.iload 4, 2) := by decide +kernel
theorem dX7_putBody_7 : decode cX7_putBody 7 = .ok (.aload_n 1, 1) := by decide +kernel
theorem dX7_putBody_8 : decode cX7_putBody 8 = .ok (.invokevirtual 59, 3) := by decide +kernel
theorem dX7_putBody_11 : decode cX7_putBody 11 = .ok (.if_icmp .ge 66, 3) := by decide +kernel
theorem dX7_putBody_14 : decode cX7_putBody 14 = .ok (.aload_n 1, 1) := by decide +kernel
theorem dX7_putBody_15 : decode cX7_putBody 15 = .ok (.iload 4, 2) := by decide +kernel
theorem dX7_putBody_17 : decode cX7_putBody 17 = .ok (.invokevirtual 65, 3) := by decide +kernel
theorem dX7_putBody_20 : decode cX7_putBody 20 = .ok (.astore 5, 2) := by decide +kernel
theorem dX7_putBody_22 : decode cX7_putBody 22 = .ok (.iconst 0, 1) := by decide +kernel
theorem dX7_putBody_23 : decode cX7_putBody 23 = .ok (.istore 6, 2) := by decide +kernel
theorem dX7_putBody_25 : decode cX7_putBody 25 = .ok (.iload 6, 2) := by decide +kernel
theorem dX7_putBody_27 : decode cX7_putBody 27 = .ok (.aload_n 0, 1) := by decide +kernel
theorem dX7_putBody_28 : decode cX7_putBody 28 = .ok (.getfield 22, 3) := by decide +kernel
theorem dX7_putBody_31 : decode cX7_putBody 31 = .ok (.if_icmp .ge 40, 3) := by decide +kernel
theorem dX7_putBody_34 : decode cX7_putBody 34 = .ok (.aload_n 0, 1) := by decide +kernel
theorem dX7_putBody_35 : decode cX7_putBody 35 = .ok (.getfield 11, 3) := by decide +kernel
theorem dX7_putBody_38 : decode cX7_putBody 38 = .ok (.iload 6, 2) := by decide +kernel
theorem dX7_putBody_40 : decode cX7_putBody 40 = .ok (.aaload, 1) := by decide +kernel
theorem dX7_putBody_41 : decode cX7_putBody 41 = .ok (.aload 5, 2) := by decide +kernel
theorem dX7_putBody_43 : decode cX7_putBody 43 = .ok (.invokevirtual 69, 3) := by decide +kernel
theorem dX7_putBody_46 : decode cX7_putBody 46 = .ok (.ifCond .eq 19, 3) := by decide +kernel
theorem dX7_putBody_49 : decode cX7_putBody 49 = .ok (.aload_n 0, 1) := by decide +kernel
theorem dX7_putBody_50 : decode cX7_putBody 50 = .ok (.getfield 11, 3) := by decide +kernel
theorem dX7_putBody_53 : decode cX7_putBody 53 = .ok (.iload 6, 2) := by decide +kernel
theorem dX7_putBody_55 : decode cX7_putBody 55 = .ok (.aaload, 1) := by decide +kernel
theorem dX7_putBody_56 : decode cX7_putBody 56 = .ok (.aload 5, 2) := by decide +kernel
theorem dX7_putBody_58 : decode cX7_putBody 58 = .ok (.aload_n 2, 1) := by decide +kernel
theorem dX7_putBody_59 : decode cX7_putBody 59 = .ok (.invokevirtual 73, 3) := by decide +kernel
theorem dX7_putBody_62 : decode cX7_putBody 62 = .ok (.iinc 3 1, 3) := by decide +kernel
theorem dX7_putBody_65 : decode cX7_putBody 65 = .ok (.iinc 6 1, 3) := by decide +kernel
theorem dX7_putBody_68 : decode cX7_putBody 68 = .ok (.goto (-43), 3) := by decide +kernel
theorem dX7_putBody_71 : decode cX7_putBody 71 = .ok (.iinc 4 1, 3) := by decide +kernel
theorem dX7_putBody_74 : decode cX7_putBody 74 = .ok (.goto (-69), 3) := by decide +kernel
theorem dX7_putBody_77 : decode cX7_putBody 77 = .ok (.iload_n 3, 1) := by decide +kernel
theorem dX7_putBody_78 : decode cX7_putBody 78 = .ok (.ireturn, 1) := by decide +kernel
theorem dX7_putTrailer_0 : decode cX7_putTrailer 0 = .ok (.aload_n 2, 1) := by decide +kernel
theorem dX7_putTrailer_1 : decode cX7_putTrailer 1 = .ok (.bipush 84, 2) := by decide +kernel
theorem dX7_putTrailer_3 : decode cX7_putTrailer 3 = .ok (.invokevirtual 51, 3) := by decide +kernel
theorem dX7_putTrailer_6 : decode cX7_putTrailer 6 = .ok (.aload_n 2, 1) := by decide +kernel
theorem dX7_putTrailer_7 : decode cX7_putTrailer 7 = .ok (.bipush 43, 2) := by decide +kernel
theorem dX7_putTrailer_9 : decode cX7_putTrailer 9 = .ok (.invokevirtual 51, 3) := by decide +kernel
theorem dX7_putTrailer_12 : decode cX7_putTrailer 12 = .ok (.aload_n 2, 1) := by decide +kernel
theorem dX7_putTrailer_13 : decode cX7_putTrailer 13 = .ok (.iload_n 0, 1) := by decide +kernel
theorem dX7_putTrailer_14 : decode cX7_putTrailer 14 = .ok (.invokevirtual 55, 3) := by decide +kernel
theorem dX7_putTrailer_17 : decode cX7_putTrailer 17 = .ok (.aload_n 2, 1) := by decide +kernel
theorem dX7_putTrailer_18 : decode cX7_putTrailer 18 = .ok (.bipush 43, 2) := by decide +kernel
theorem dX7_putTrailer_20 : decode cX7_putTrailer 20 = .ok (.invokevirtual 51, 3) := by decide +kernel
theorem dX7_putTrailer_23 : decode cX7_putTrailer 23 = .ok (.aload_n 2, 1) := by decide +kernel
theorem dX7_putTrailer_24 : decode cX7_putTrailer 24 = .ok (.iload_n 1, 1) := by decide +kernel
theorem dX7_putTrailer_25 : decode cX7_putTrailer 25 = .ok (.invokevirtual 55, 3) := by decide +kernel
theorem dX7_putTrailer_28 : decode cX7_putTrailer 28 = .ok (.aload_n 2, 1) := by decide +kernel
theorem dX7_putTrailer_29 : decode cX7_putTrailer 29 = .ok (.bipush 39, 2) := by decide +kernel
theorem dX7_putTrailer_31 : decode cX7_putTrailer 31 = .ok (.invokevirtual 51, 3) := by decide +kernel
theorem dX7_putTrailer_34 : decode cX7_putTrailer 34 = .ok (.return_, 1) := by decide +kernel
theorem dX8_init_0 : decode cX8_init 0 = .ok (.aload_n 0, 1) := by decide +kernel
theorem dX8_init_1 : decode cX8_init 1 = .ok (.invokespecial 3, 3) := by decide +kernel
theorem dX8_init_4 : decode cX8_init 4 = .ok (.aload_n 0, 1) := by decide +kernel
theorem dX8_init_5 : decode cX8_init 5 = .ok (.bipush 10, 2) := by decide +kernel
theorem dX8_init_7 : decode cX8_init 7 = .ok (.anewarray 9, 3) := by decide +kernel
theorem dX8_init_10 : decode cX8_init 10 = .ok (.putfield 11, 3) := by decide +kernel
theorem dX8_init_13 : decode cX8_init 13 = .ok (.aload_n 0, 1) := by decide +kernel
theorem dX8_init_14 : decode cX8_init 14 = .ok (.bipush 11, 2) := by decide +kernel
theorem dX8_init_16 : decode cX8_init 16 = .ok (.anewarray 17, 3) := by decide +kernel
theorem dX8_init_19 : decode cX8_init 19 = .ok (.putfield 19, 3) := by decide +kernel
theorem dX8_init_22 : decode cX8_init 22 = .ok (.aload_n 0, 1) := by decide +kernel
theorem dX8_init_23 : decode cX8_init 23 = .ok (.new 9, 3) := by decide +kernel
theorem dX8_init_26 : decode cX8_init 26 = .ok (.dup, 1) := by decide +kernel
theorem dX8_init_27 : decode cX8_init 27 = .ok (.invokespecial 23, 3) := by decide +kernel
theorem dX8_init_30 : decode cX8_init 30 = .ok (.putfield 24, 3) := by decide +kernel
theorem dX8_init_33 : decode cX8_init 33 = .ok (.aload_n 0, 1) := by decide +kernel
theorem dX8_init_34 : decode cX8_init 34 = .ok (.new 17, 3) := by decide +kernel
theorem dX8_init_37 : decode cX8_init 37 = .ok (.dup, 1) := by decide +kernel
theorem dX8_init_38 : decode cX8_init 38 = .ok (.invokespecial 28, 3) := by decide +kernel
theorem dX8_init_41 : decode cX8_init 41 = .ok (.putfield 29, 3) := by decide +kernel
theorem dX8_init_44 : decode cX8_init 44 = .ok (.iconst 0, 1) := by decide +kernel
theorem dX8_init_45 : decode cX8_init 45 = .ok (.istore_n 1, 1) := by decide +kernel
theorem dX8_init_46 : decode cX8_init 46 = .ok (.iload_n 1, 1) := by decide +kernel
theorem dX8_init_47 : decode cX8_init 47 = .ok (.bipush 10, 2) := by decide +kernel
theorem dX8_init_49 : decode cX8_init 49 = .ok (.if_icmp .ge 22, 3) := by decide +kernel
theorem dX8_init_52 : decode cX8_init 52 = .ok (.aload_n 0, 1) := by decide +kernel
theorem dX8_init_53 : decode cX8_init 53 = .ok (.getfield 11, 3) := by decide +kernel
theorem dX8_init_56 : decode cX8_init 56 = .ok (.iload_n 1, 1) := by decide +kernel
theorem dX8_init_57 : decode cX8_init 57 = .ok (.new 9, 3) := by decide +kernel
theorem dX8_init_60 : decode cX8_init 60 = .ok (.dup, 1) := by decide +kernel
theorem dX8_init_61 : decode cX8_init 61 = .ok (.invokespecial 23, 3) := by decide +kernel
theorem dX8_init_64 : decode cX8_init 64 = .ok (.aastore, 1) := by decide +kernel
theorem dX8_init_65 : decode cX8_init 65 = .ok (.iinc 1 1, 3) := by decide +kernel
theorem dX8_init_68 : decode cX8_init 68 = .ok (.goto (-22), 3) := by decide +kernel
theorem dX8_init_71 : decode cX8_init 71 = .ok (.iconst 0, 1) := by decide +kernel
theorem dX8_init_72 : decode cX8_init 72 = .ok (.istore_n 1, 1) := by decide +kernel
theorem dX8_init_73 : decode cX8_init 73 = .ok (.iload_n 1, 1) := by decide +kernel
theorem dX8_init_74 : decode cX8_init 74 = .ok (.bipush 11, 2) := by decide +kernel
theorem dX8_init_76 : decode cX8_init 76 = .ok (.if_icmp .ge 22, 3) := by decide +kernel
theorem dX8_init_79 : decode cX8_init 79 = .ok (.aload_n 0, 1) := by decide +kernel
theorem dX8_init_80 : decode cX8_init 80 = .ok (.getfield 19, 3) := by decide +kernel
theorem dX8_init_83 : decode cX8_init 83 = .ok (.iload_n 1, 1) := by decide +kernel
theorem dX8_init_84 : decode cX8_init 84 = .ok (.new 17, 3) := by decide +kernel
theorem dX8_init_87 : decode cX8_init 87 = .ok (.dup, 1) := by decide +kernel
theorem dX8_init_88 : decode cX8_init 88 = .ok (.invokespecial 28, 3) := by decide +kernel
theorem dX8_init_91 : decode cX8_init 91 = .ok (.aastore, 1) := by decide +kernel
theorem dX8_init_92 : decode cX8_init 92 = .ok (.iinc 1 1, 3) := by decide +kernel
theorem dX8_init_95 : decode cX8_init 95 = .ok (.goto (-22), 3) := by decide +kernel
theorem dX8_init_98 : decode cX8_init 98 = .ok (.return_, 1) := by decide +kernel
theorem dX8_wipe_0 : decode cX8_wipe 0 = .ok (.aload_n 0, 1) := by decide +kernel
theorem dX8_wipe_1 : decode cX8_wipe 1 = .ok (.iconst 0, 1) := by decide +kernel
theorem dX8_wipe_2 : decode cX8_wipe 2 = .ok (.putfield 33, 3) := by decide +kernel
theorem dX8_wipe_5 : decode cX8_wipe 5 = .ok (.aload_n 0, 1) := by decide +kernel
theorem dX8_wipe_6 : decode cX8_wipe 6 = .ok (.iconst 0, 1) := by decide +kernel
theorem dX8_wipe_7 : decode cX8_wipe 7 = .ok (.putfield 37, 3) := by decide +kernel
theorem dX8_wipe_10 : decode cX8_wipe 10 = .ok (.aload_n 0, 1) := by decide +kernel
theorem dX8_wipe_11 : decode cX8_wipe 11 = .ok (.iconst 0, 1) := by decide +kernel
theorem dX8_wipe_12 : decode cX8_wipe 12 = .ok (.putfield 40, 3) := by decide +kernel
theorem dX8_wipe_15 : decode cX8_wipe 15 = .ok (.return_, 1) := by decide +kernel
theorem dX8_itemCount_0 : decode cX8_itemCount 0 = .ok (.aload_n 0, 1) := by decide +kernel
theorem dX8_itemCount_1 : decode cX8_itemCount 1 = .ok (.getfield 33, 3) := by decide +kernel
theorem dX8_itemCount_4 : decode cX8_itemCount 4 = .ok (.ireturn, 1) := by decide +kernel
theorem dX8_entryCount_0 : decode cX8_entryCount 0 = .ok (.aload_n 0, 1) := by decide +kernel
theorem dX8_entryCount_1 : decode cX8_entryCount 1 = .ok (.getfield 37, 3) := by decide +kernel
theorem dX8_entryCount_4 : decode cX8_entryCount 4 = .ok (.ireturn, 1) := by decide +kernel
theorem dX8_itemAt_0 : decode cX8_itemAt 0 = .ok (.iload_n 1, 1) := by decide +kernel
theorem dX8_itemAt_1 : decode cX8_itemAt 1 = .ok (.ifCond .lt 20, 3) := by decide +kernel
theorem dX8_itemAt_4 : decode cX8_itemAt 4 = .ok (.iload_n 1, 1) := by decide +kernel
theorem dX8_itemAt_5 : decode cX8_itemAt 5 = .ok (.aload_n 0, 1) := by decide +kernel
theorem dX8_itemAt_6 : decode cX8_itemAt 6 = .ok (.getfield 33, 3) := by decide +kernel
theorem dX8_itemAt_9 : decode cX8_itemAt 9 = .ok (.if_icmp .ge 12, 3) := by decide +kernel
theorem dX8_itemAt_12 : decode cX8_itemAt 12 = .ok (.aload_n 0, 1) := by decide +kernel
theorem dX8_itemAt_13 : decode cX8_itemAt 13 = .ok (.getfield 11, 3) := by decide +kernel
theorem dX8_itemAt_16 : decode cX8_itemAt 16 = .ok (.iload_n 1, 1) := by decide +kernel
theorem dX8_itemAt_17 : decode cX8_itemAt 17 = .ok (.aaload, 1) := by decide +kernel
theorem dX8_itemAt_18 : decode cX8_itemAt 18 = .ok (.goto 7, 3) := by decide +kernel
theorem dX8_itemAt_21 : decode cX8_itemAt 21 = .ok (.aload_n 0, 1) := by decide +kernel
theorem dX8_itemAt_22 : decode cX8_itemAt 22 = .ok (.getfield 24, 3) := by decide +kernel
theorem dX8_itemAt_25 : decode cX8_itemAt 25 = .ok (.areturn, 1) := by decide +kernel
theorem dX8_entryAt_0 : decode cX8_entryAt 0 = .ok (.iload_n 1, 1) := by decide +kernel
theorem dX8_entryAt_1 : decode cX8_entryAt 1 = .ok (.ifCond .lt 20, 3) := by decide +kernel
theorem dX8_entryAt_4 : decode cX8_entryAt 4 = .ok (.iload_n 1, 1) := by decide +kernel
theorem dX8_entryAt_5 : decode cX8_entryAt 5 = .ok (.aload_n 0, 1) := by decide +kernel
theorem dX8_entryAt_6 : decode cX8_entryAt 6 = .ok (.getfield 37, 3) := by decide +kernel
theorem dX8_entryAt_9 : decode cX8_entryAt 9 = .ok (.if_icmp .ge 12, 3) := by decide +kernel
theorem dX8_entryAt_12 : decode cX8_entryAt 12 = .ok (.aload_n 0, 1) := by decide +kernel
theorem dX8_entryAt_13 : decode cX8_entryAt 13 = .ok (.getfield 19, 3) := by decide +kernel
theorem dX8_entryAt_16 : decode cX8_entryAt 16 = .ok (.iload_n 1, 1) := by decide +kernel
theorem dX8_entryAt_17 : decode cX8_entryAt 17 = .ok (.aaload, 1) := by decide +kernel
theorem dX8_entryAt_18 : decode cX8_entryAt 18 = .ok (.goto 7, 3) := by decide +kernel
theorem dX8_entryAt_21 : decode cX8_entryAt 21 = .ok (.aload_n 0, 1) := by decide +kernel
theorem dX8_entryAt_22 : decode cX8_entryAt 22 = .ok (.getfield 29, 3) := by decide +kernel
theorem dX8_entryAt_25 : decode cX8_entryAt 25 = .ok (.areturn, 1) := by decide +kernel
theorem dX8_isLoopOpen_0 : decode cX8_isLoopOpen 0 = .ok (.aload_n 0, 1) := by decide +kernel
theorem dX8_isLoopOpen_1 : decode cX8_isLoopOpen 1 = .ok (.getfield 40, 3) := by decide +kernel
theorem dX8_isLoopOpen_4 : decode cX8_isLoopOpen 4 = .ok (.ireturn, 1) := by decide +kernel
theorem dX8_openLoopSize_0 : decode cX8_openLoopSize 0 = .ok (.aload_n 0, 1) := by decide +kernel
theorem dX8_openLoopSize_1 : decode cX8_openLoopSize 1 = .ok (.aload_n 0, 1) := by decide +kernel
theorem dX8_openLoopSize_2 : decode cX8_openLoopSize 2 = .ok (.getfield 37, 3) := by decide +kernel
theorem dX8_openLoopSize_5 : decode cX8_openLoopSize 5 = .ok (.iconst 1, 1) := by decide +kernel
theorem dX8_openLoopSize_6 : decode cX8_openLoopSize 6 = .ok (.isub, 1) := by decide +kernel
theorem dX8_openLoopSize_7 : decode cX8_openLoopSize 7 = .ok (.invokevirtual 44, 3) := by decide +kernel
theorem dX8_openLoopSize_10 : decode cX8_openLoopSize 10 = .ok (.astore_n 1, 1) := by decide +kernel
theorem dX8_openLoopSize_11 : decode cX8_openLoopSize 11 = .ok (.aload_n 0, 1) := by decide +kernel
theorem dX8_openLoopSize_12 : decode cX8_openLoopSize 12 = .ok (.getfield 40, 3) := by decide +kernel
theorem dX8_openLoopSize_15 : decode cX8_openLoopSize 15 = .ok (.ifCond .eq 15, 3) := by decide +kernel
theorem dX8_openLoopSize_18 : decode cX8_openLoopSize 18 = .ok (.aload_n 1, 1) := by decide +kernel
theorem dX8_openLoopSize_19 : decode cX8_openLoopSize 19 = .ok (.getfield 48, 3) := by decide +kernel
theorem dX8_openLoopSize_22 : decode cX8_openLoopSize 22 = .ok (.aload_n 1, 1) := by decide +kernel
theorem dX8_openLoopSize_23 : decode cX8_openLoopSize 23 = .ok (.getfield 51, 3) := by decide +kernel
theorem dX8_openLoopSize_26 : decode cX8_openLoopSize 26 = .ok (.isub, 1) := by decide +kernel
theorem dX8_openLoopSize_27 : decode cX8_openLoopSize 27 = .ok (.goto 4, 3) := by decide +kernel
theorem dX8_openLoopSize_30 : decode cX8_openLoopSize 30 = .ok (.iconst 0, 1) := by decide +kernel
theorem dX8_openLoopSize_31 : decode cX8_openLoopSize 31 = .ok (.ireturn, 1) := by decide +kernel
theorem dX8_appendItem_0 : decode cX8_appendItem 0 = .ok (.aload_n 0, 1) := by decide +kernel
theorem dX8_appendItem_1 : decode cX8_appendItem 1 = .ok (.getfield 33, 3) := by decide +kernel
theorem dX8_appendItem_4 : decode cX8_appendItem 4 = .ok (.bipush 10, 2) := by decide +kernel
theorem dX8_appendItem_6 : decode cX8_appendItem 6 = .ok (.if_icmp .lt 8, 3) := by decide +kernel
theorem dX8_appendItem_9 : decode cX8_appendItem 9 = .ok (.aload_n 0, 1) := by decide +kernel
theorem dX8_appendItem_10 : decode cX8_appendItem 10 = .ok (.getfield 33, 3) := by decide +kernel
theorem dX8_appendItem_13 : decode cX8_appendItem 13 = .ok (.ireturn, 1) := by decide +kernel
theorem dX8_appendItem_14 : decode cX8_appendItem 14 = .ok (.aload_n 0, 1) := by decide +kernel
theorem dX8_appendItem_15 : decode cX8_appendItem 15 = .ok (.getfield 40, 3) := by decide +kernel
theorem dX8_appendItem_18 : decode cX8_appendItem 18 = .ok (.ifCond .ne 14, 3) := by decide +kernel
theorem dX8_appendItem_21 : decode cX8_appendItem 21 = .ok (.aload_n 0, 1) := by decide +kernel
theorem dX8_appendItem_22 : decode cX8_appendItem 22 = .ok (.iconst 0, 1) := by decide +kernel
theorem dX8_appendItem_23 : decode cX8_appendItem 23 = .ok (.iload_n 2, 1) := by decide +kernel
theorem dX8_appendItem_24 : decode cX8_appendItem 24 = .ok (.iconst 1, 1) := by decide +kernel
theorem dX8_appendItem_25 : decode cX8_appendItem 25 = .ok (.invokestatic 54, 3) := by decide +kernel
theorem dX8_appendItem_28 : decode cX8_appendItem 28 = .ok (.iconst 1, 1) := by decide +kernel
theorem dX8_appendItem_29 : decode cX8_appendItem 29 = .ok (.invokevirtual 60, 3) := by decide +kernel
theorem dX8_appendItem_32 : decode cX8_appendItem 32 = .ok (.aload_n 0, 1) := by decide +kernel
theorem dX8_appendItem_33 : decode cX8_appendItem 33 = .ok (.aload_n 0, 1) := by decide +kernel
theorem dX8_appendItem_34 : decode cX8_appendItem 34 = .ok (.getfield 37, 3) := by decide +kernel
theorem dX8_appendItem_37 : decode cX8_appendItem 37 = .ok (.iconst 1, 1) := by decide +kernel
theorem dX8_appendItem_38 : decode cX8_appendItem 38 = .ok (.isub, 1) := by decide +kernel
theorem dX8_appendItem_39 : decode cX8_appendItem 39 = .ok (.invokevirtual 44, 3) := by decide +kernel
theorem dX8_appendItem_42 : decode cX8_appendItem 42 = .ok (.invokevirtual 64, 3) := by decide +kernel
theorem dX8_appendItem_45 : decode cX8_appendItem 45 = .ok (.aload_n 0, 1) := by decide +kernel
theorem dX8_appendItem_46 : decode cX8_appendItem 46 = .ok (.getfield 11, 3) := by decide +kernel
theorem dX8_appendItem_49 : decode cX8_appendItem 49 = .ok (.aload_n 0, 1) := by decide +kernel
theorem dX8_appendItem_50 : decode cX8_appendItem 50 = .ok (.getfield 33, 3) := by decide +kernel
theorem dX8_appendItem_53 : decode cX8_appendItem 53 = .ok (.aaload, 1) := by decide +kernel
theorem dX8_appendItem_54 : decode cX8_appendItem 54 = .ok (.iload_n 1, 1) := by decide +kernel
theorem dX8_appendItem_55 : decode cX8_appendItem 55 = .ok (.iload_n 2, 1) := by decide +kernel
theorem dX8_appendItem_56 : decode cX8_appendItem 56 = .ok (.iload_n 3, 1) := by decide +kernel
theorem dX8_appendItem_57 : decode cX8_appendItem 57 = .ok (.invokevirtual 67, 3) := by decide +kernel
theorem dX8_appendItem_60 : decode cX8_appendItem 60 = .ok (.aload_n 0, 1) := by decide +kernel
theorem dX8_appendItem_61 : decode cX8_appendItem 61 = .ok (.dup, 1) := by decide +kernel
theorem dX8_appendItem_62 : decode cX8_appendItem 62 = .ok (.getfield 33, 3) := by decide +kernel
theorem dX8_appendItem_65 : decode cX8_appendItem 65 = .ok (.iconst 1, 1) := by decide +kernel
theorem dX8_appendItem_66 : decode cX8_appendItem 66 = .ok (.iadd, 1) := by decide +kernel
theorem dX8_appendItem_67 : decode cX8_appendItem 67 = .ok (.putfield 33, 3) := by decide +kernel
theorem dX8_appendItem_70 : decode cX8_appendItem 70 = .ok (.aload_n 0, 1) := by decide +kernel
theorem dX8_appendItem_71 : decode cX8_appendItem 71 = .ok (.getfield 33, 3) := by decide +kernel
theorem dX8_appendItem_74 : decode cX8_appendItem 74 = .ok (.iconst 1, 1) := by decide +kernel
theorem dX8_appendItem_75 : decode cX8_appendItem 75 = .ok (.isub, 1) := by decide +kernel
theorem dX8_appendItem_76 : decode cX8_appendItem 76 = .ok (.ireturn, 1) := by decide +kernel
theorem dX8_beginLoop_0 : decode cX8_beginLoop 0 = .ok (.aload_n 0, 1) := by decide +kernel
theorem dX8_beginLoop_1 : decode cX8_beginLoop 1 = .ok (.iconst 1, 1) := by decide +kernel
theorem dX8_beginLoop_2 : decode cX8_beginLoop 2 = .ok (.iload_n 1, 1) := by decide +kernel
theorem dX8_beginLoop_3 : decode cX8_beginLoop 3 = .ok (.iload_n 2, 1) := by decide +kernel
theorem dX8_beginLoop_4 : decode cX8_beginLoop 4 = .ok (.invokevirtual 60, 3) := by decide +kernel
theorem dX8_beginLoop_7 : decode cX8_beginLoop 7 = .ok (.aload_n 0, 1) := by decide +kernel
theorem dX8_beginLoop_8 : decode cX8_beginLoop 8 = .ok (.iconst 1, 1) := by decide +kernel
theorem dX8_beginLoop_9 : decode cX8_beginLoop 9 = .ok (.putfield 40, 3) := by decide +kernel
theorem dX8_beginLoop_12 : decode cX8_beginLoop 12 = .ok (.return_, 1) := by decide +kernel
theorem dX8_endLoop_0 : decode cX8_endLoop 0 = .ok (.aload_n 0, 1) := by decide +kernel
theorem dX8_endLoop_1 : decode cX8_endLoop 1 = .ok (.invokevirtual 71, 3) := by decide +kernel
theorem dX8_endLoop_4 : decode cX8_endLoop 4 = .ok (.istore_n 1, 1) := by decide +kernel
theorem dX8_endLoop_5 : decode cX8_endLoop 5 = .ok (.aload_n 0, 1) := by decide +kernel
theorem dX8_endLoop_6 : decode cX8_endLoop 6 = .ok (.iconst 0, 1) := by decide +kernel
theorem dX8_endLoop_7 : decode cX8_endLoop 7 = .ok (.putfield 40, 3) := by decide +kernel
theorem dX8_endLoop_10 : decode cX8_endLoop 10 = .ok (.iload_n 1, 1) := by decide +kernel
theorem dX8_endLoop_11 : decode cX8_endLoop 11 = .ok (.ireturn, 1) := by decide +kernel
theorem dX8_appendEntry_0 : decode cX8_appendEntry 0 = .ok (.aload_n 0, 1) := by decide +kernel
theorem dX8_appendEntry_1 : decode cX8_appendEntry 1 = .ok (.getfield 37, 3) := by decide +kernel
theorem dX8_appendEntry_4 : decode cX8_appendEntry 4 = .ok (.bipush 11, 2) := by decide +kernel
theorem dX8_appendEntry_6 : decode cX8_appendEntry 6 = .ok (.if_icmp .ge 32, 3) := by decide +kernel
theorem dX8_appendEntry_9 : decode cX8_appendEntry 9 = .ok (.aload_n 0, 1) := by decide +kernel
theorem dX8_appendEntry_10 : decode cX8_appendEntry 10 = .ok (.getfield 19, 3) := by decide +kernel
theorem dX8_appendEntry_13 : decode cX8_appendEntry 13 = .ok (.aload_n 0, 1) := by decide +kernel
theorem dX8_appendEntry_14 : decode cX8_appendEntry 14 = .ok (.getfield 37, 3) := by decide +kernel
theorem dX8_appendEntry_17 : decode cX8_appendEntry 17 = .ok (.aaload, 1) := by decide +kernel
theorem dX8_appendEntry_18 : decode cX8_appendEntry 18 = .ok (.iload_n 1, 1) := by decide +kernel
theorem dX8_appendEntry_19 : decode cX8_appendEntry 19 = .ok (.aload_n 0, 1) := by decide +kernel
theorem dX8_appendEntry_20 : decode cX8_appendEntry 20 = .ok (.getfield 33, 3) := by decide +kernel
theorem dX8_appendEntry_23 : decode cX8_appendEntry 23 = .ok (.iload_n 2, 1) := by decide +kernel
theorem dX8_appendEntry_24 : decode cX8_appendEntry 24 = .ok (.iload_n 3, 1) := by decide +kernel
theorem dX8_appendEntry_25 : decode cX8_appendEntry 25 = .ok (.invokevirtual 75, 3) := by decide +kernel
theorem dX8_appendEntry_28 : decode cX8_appendEntry 28 = .ok (.aload_n 0, 1) := by decide +kernel
theorem dX8_appendEntry_29 : decode cX8_appendEntry 29 = .ok (.dup, 1) := by decide +kernel
theorem dX8_appendEntry_30 : decode cX8_appendEntry 30 = .ok (.getfield 37, 3) := by decide +kernel
theorem dX8_appendEntry_33 : decode cX8_appendEntry 33 = .ok (.iconst 1, 1) := by decide +kernel
theorem dX8_appendEntry_34 : decode cX8_appendEntry 34 = .ok (.iadd, 1) := by decide +kernel
theorem dX8_appendEntry_35 : decode cX8_appendEntry 35 = .ok (.putfield 37, 3) := by decide +kernel
theorem dX8_appendEntry_38 : decode cX8_appendEntry 38 = .ok (.return_, 1) := by decide +kernel
theorem dX9_init_0 : decode cX9_init 0 = .ok (.aload_n 0, 1) := by decide +kernel
theorem dX9_init_1 : decode cX9_init 1 = .ok (.invokespecial 3, 3) := by decide +kernel
theorem dX9_init_4 : decode cX9_init 4 = .ok (.aload_n 0, 1) := by decide +kernel
theorem dX9_init_5 : decode cX9_init 5 = .ok (.bipush 40, 2) := by decide +kernel
theorem dX9_init_7 : decode cX9_init 7 = .ok (.newarray .char, 2) := by decide +kernel
theorem dX9_init_9 : decode cX9_init 9 = .ok (.putfield 9, 3) := by decide +kernel
theorem dX9_init_12 : decode cX9_init 12 = .ok (.aload_n 0, 1) := by decide +kernel
theorem dX9_init_13 : decode cX9_init 13 = .ok (.iconst 5, 1) := by decide +kernel
theorem dX9_init_14 : decode cX9_init 14 = .ok (.newarray .int, 2) := by decide +kernel
theorem dX9_init_16 : decode cX9_init 16 = .ok (.putfield 15, 3) := by decide +kernel
theorem dX9_init_19 : decode cX9_init 19 = .ok (.aload_n 0, 1) := by decide +kernel
theorem dX9_init_20 : decode cX9_init 20 = .ok (.bipush 32, 2) := by decide +kernel
theorem dX9_init_22 : decode cX9_init 22 = .ok (.putfield 19, 3) := by decide +kernel
theorem dX9_init_25 : decode cX9_init 25 = .ok (.return_, 1) := by decide +kernel
theorem dX9_begin_0 : decode cX9_begin 0 = .ok (.aload_n 0, 1) := by decide +kernel
theorem dX9_begin_1 : decode cX9_begin 1 = .ok (.iload_n 1, 1) := by decide +kernel
theorem dX9_begin_2 : decode cX9_begin 2 = .ok (.putfield 23, 3) := by decide +kernel
theorem dX9_begin_5 : decode cX9_begin 5 = .ok (.aload_n 0, 1) := by decide +kernel
theorem dX9_begin_6 : decode cX9_begin 6 = .ok (.iload_n 2, 1) := by decide +kernel
theorem dX9_begin_7 : decode cX9_begin 7 = .ok (.putfield 19, 3) := by decide +kernel
theorem dX9_begin_10 : decode cX9_begin 10 = .ok (.aload_n 0, 1) := by decide +kernel
theorem dX9_begin_11 : decode cX9_begin 11 = .ok (.iconst 0, 1) := by decide +kernel
theorem dX9_begin_12 : decode cX9_begin 12 = .ok (.putfield 27, 3) := by decide +kernel
theorem dX9_begin_15 : decode cX9_begin 15 = .ok (.return_, 1) := by decide +kernel
theorem dX9_beginElement_0 : decode cX9_beginElement 0 = .ok (.aload_n 0, 1) := by decide +kernel
theorem dX9_beginElement_1 : decode cX9_beginElement 1 = .ok (.getfield 27, 3) := by decide +kernel
theorem dX9_beginElement_4 : decode cX9_beginElement 4 = .ok (.iconst 5, 1) := by decide +kernel
theorem dX9_beginElement_5 : decode cX9_beginElement 5 = .ok (.if_icmp .ge 23, 3) := by decide +kernel
theorem dX9_beginElement_8 : decode cX9_beginElement 8 = .ok (.aload_n 0, 1) := by decide +kernel
theorem dX9_beginElement_9 : decode cX9_beginElement 9 = .ok (.getfield 15, 3) := by decide +kernel
theorem dX9_beginElement_12 : decode cX9_beginElement 12 = .ok (.aload_n 0, 1) := by decide +kernel
theorem dX9_beginElement_13 : decode cX9_beginElement 13 = .ok (.getfield 27, 3) := by decide +kernel
theorem dX9_beginElement_16 : decode cX9_beginElement 16 = .ok (.iconst 0, 1) := by decide +kernel
theorem dX9_beginElement_17 : decode cX9_beginElement 17 = .ok (.iastore, 1) := by decide +kernel
theorem dX9_beginElement_18 : decode cX9_beginElement 18 = .ok (.aload_n 0, 1) := by decide +kernel
theorem dX9_beginElement_19 : decode cX9_beginElement 19 = .ok (.dup, 1) := by decide +kernel
theorem dX9_beginElement_20 : decode cX9_beginElement 20 = .ok (.getfield 27, 3) := by decide +kernel
theorem dX9_beginElement_23 : decode cX9_beginElement 23 = .ok (.iconst 1, 1) := by decide +kernel
theorem dX9_beginElement_24 : decode cX9_beginElement 24 = .ok (.iadd, 1) := by decide +kernel
theorem dX9_beginElement_25 : decode cX9_beginElement 25 = .ok (.putfield 27, 3) := by decide +kernel
theorem dX9_beginElement_28 : decode cX9_beginElement 28 = .ok (.return_, 1) := by decide +kernel
theorem dX9_append_0 : decode cX9_append 0 = .ok (.aload_n 0, 1) := by decide +kernel
theorem dX9_append_1 : decode cX9_append 1 = .ok (.getfield 27, 3) := by decide +kernel
theorem dX9_append_4 : decode cX9_append 4 = .ok (.iconst 1, 1) := by decide +kernel
theorem dX9_append_5 : decode cX9_append 5 = .ok (.isub, 1) := by decide +kernel
theorem dX9_append_6 : decode cX9_append 6 = .ok (.istore_n 2, 1) := by decide +kernel
theorem dX9_append_7 : decode cX9_append 7 = .ok (.iload_n 2, 1) := by decide +kernel
theorem dX9_append_8 : decode cX9_append 8 = .ok (.ifCond .ge 4, 3) := by decide +kernel
theorem dX9_append_11 : decode cX9_append 11 = .ok (.return_, 1) := by decide +kernel
theorem dX9_append_12 : decode cX9_append 12 = .ok (.aload_n 0, 1) := by decide +kernel
theorem dX9_append_13 : decode cX9_append 13 = .ok (.getfield 15, 3) := by decide +kernel
theorem dX9_append_16 : decode cX9_append 16 = .ok (.iload_n 2, 1) := by decide +kernel
theorem dX9_append_17 : decode cX9_append 17 = .ok (.iaload, 1) := by decide +kernel
theorem dX9_append_18 : decode cX9_append 18 = .ok (.bipush 8, 2) := by decide +kernel
theorem dX9_append_20 : decode cX9_append 20 = .ok (.if_icmp .ge 20, 3) := by decide +kernel
theorem dX9_append_23 : decode cX9_append 23 = .ok (.aload_n 0, 1) := by decide +kernel
theorem dX9_append_24 : decode cX9_append 24 = .ok (.getfield 9, 3) := by decide +kernel
theorem dX9_append_27 : decode cX9_append 27 = .ok (.iload_n 2, 1) := by decide +kernel
theorem dX9_append_28 : decode cX9_append 28 = .ok (.bipush 8, 2) := by decide +kernel
theorem dX9_append_30 : decode cX9_append 30 = .ok (.imul, 1) := by decide +kernel
theorem dX9_append_31 : decode cX9_append 31 = .ok (.aload_n 0, 1) := by decide +kernel
theorem dX9_append_32 : decode cX9_append 32 = .ok (.getfield 15, 3) := by decide +kernel
theorem dX9_append_35 : decode cX9_append 35 = .ok (.iload_n 2, 1) := by decide +kernel
theorem dX9_append_36 : decode cX9_append 36 = .ok (.iaload, 1) := by decide +kernel
theorem dX9_append_37 : decode cX9_append 37 = .ok (.iadd, 1) := by decide +kernel
theorem dX9_append_38 : decode cX9_append 38 = .ok (.iload_n 1, 1) := by decide +kernel
theorem dX9_append_39 : decode cX9_append 39 = .ok (.castore, 1) := by decide +kernel
theorem dX9_append_40 : decode cX9_append 40 = .ok (.aload_n 0, 1) := by decide +kernel
theorem dX9_append_41 : decode cX9_append 41 = .ok (.getfield 15, 3) := by decide +kernel
theorem dX9_append_44 : decode cX9_append 44 = .ok (.iload_n 2, 1) := by decide +kernel
theorem dX9_append_45 : decode cX9_append 45 = .ok (.dup2, 1) := by decide +kernel
theorem dX9_append_46 : decode cX9_append 46 = .ok (.iaload, 1) := by decide +kernel
theorem dX9_append_47 : decode cX9_append 47 = .ok (.iconst 1, 1) := by decide +kernel
theorem dX9_append_48 : decode cX9_append 48 = .ok (.iadd, 1) := by decide +kernel
theorem dX9_append_49 : decode cX9_append 49 = .ok (.iastore, 1) := by decide +kernel
theorem dX9_append_50 : decode cX9_append 50 = .ok (.return_, 1) := by decide +kernel
theorem dX9_assign_0 : decode cX9_assign 0 = .ok (.aload_n 0, 1) := by decide +kernel
theorem dX9_assign_1 : decode cX9_assign 1 = .ok (.iload_n 1, 1) := by decide +kernel
theorem dX9_assign_2 : decode cX9_assign 2 = .ok (.putfield 30, 3) := by decide +kernel
theorem dX9_assign_5 : decode cX9_assign 5 = .ok (.aload_n 0, 1) := by decide +kernel
theorem dX9_assign_6 : decode cX9_assign 6 = .ok (.iload_n 2, 1) := by decide +kernel
theorem dX9_assign_7 : decode cX9_assign 7 = .ok (.putfield 33, 3) := by decide +kernel
theorem dX9_assign_10 : decode cX9_assign 10 = .ok (.return_, 1) := by decide +kernel
theorem dX9_start_0 : decode cX9_start 0 = .ok (.aload_n 0, 1) := by decide +kernel
theorem dX9_start_1 : decode cX9_start 1 = .ok (.getfield 23, 3) := by decide +kernel
theorem dX9_start_4 : decode cX9_start 4 = .ok (.ireturn, 1) := by decide +kernel
theorem dX9_mark_0 : decode cX9_mark 0 = .ok (.aload_n 0, 1) := by decide +kernel
theorem dX9_mark_1 : decode cX9_mark 1 = .ok (.getfield 19, 3) := by decide +kernel
theorem dX9_mark_4 : decode cX9_mark 4 = .ok (.ireturn, 1) := by decide +kernel
theorem dX9_elementCount_0 : decode cX9_elementCount 0 = .ok (.aload_n 0, 1) := by decide +kernel
theorem dX9_elementCount_1 : decode cX9_elementCount 1 = .ok (.getfield 27, 3) := by decide +kernel
theorem dX9_elementCount_4 : decode cX9_elementCount 4 = .ok (.ireturn, 1) := by decide +kernel
theorem dX9_itemNumber_0 : decode cX9_itemNumber 0 = .ok (.aload_n 0, 1) := by decide +kernel
theorem dX9_itemNumber_1 : decode cX9_itemNumber 1 = .ok (.getfield 30, 3) := by decide +kernel
theorem dX9_itemNumber_4 : decode cX9_itemNumber 4 = .ok (.ireturn, 1) := by decide +kernel
theorem dX9_passNumber_0 : decode cX9_passNumber 0 = .ok (.aload_n 0, 1) := by decide +kernel
theorem dX9_passNumber_1 : decode cX9_passNumber 1 = .ok (.getfield 33, 3) := by decide +kernel
theorem dX9_passNumber_4 : decode cX9_passNumber 4 = .ok (.ireturn, 1) := by decide +kernel
theorem dX9_countIn_0 : decode cX9_countIn 0 = .ok (.iload_n 1, 1) := by decide +kernel
theorem dX9_countIn_1 : decode cX9_countIn 1 = .ok (.ifCond .lt 20, 3) := by decide +kernel
theorem dX9_countIn_4 : decode cX9_countIn 4 = .ok (.iload_n 1, 1) := by decide +kernel
theorem dX9_countIn_5 : decode cX9_countIn 5 = .ok (.aload_n 0, 1) := by decide +kernel
theorem dX9_countIn_6 : decode cX9_countIn 6 = .ok (.getfield 27, 3) := by decide +kernel
theorem dX9_countIn_9 : decode cX9_countIn 9 = .ok (.if_icmp .ge 12, 3) := by decide +kernel
theorem dX9_countIn_12 : decode cX9_countIn 12 = .ok (.aload_n 0, 1) := by decide +kernel
theorem dX9_countIn_13 : decode cX9_countIn 13 = .ok (.getfield 15, 3) := by decide +kernel
theorem dX9_countIn_16 : decode cX9_countIn 16 = .ok (.iload_n 1, 1) := by decide +kernel
theorem dX9_countIn_17 : decode cX9_countIn 17 = .ok (.iaload, 1) := by decide +kernel
theorem dX9_countIn_18 : decode cX9_countIn 18 = .ok (.goto 4, 3) := by decide +kernel
theorem dX9_countIn_21 : decode cX9_countIn 21 = .ok (.iconst 0, 1) := by decide +kernel
theorem dX9_countIn_22 : decode cX9_countIn 22 = .ok (.ireturn, 1) := by decide +kernel
theorem dX9_letterIn_0 : decode cX9_letterIn 0 = .ok (.iload_n 2, 1) := by decide +kernel
theorem dX9_letterIn_1 : decode cX9_letterIn 1 = .ok (.ifCond .lt 22, 3) := by decide +kernel
theorem dX9_letterIn_4 : decode cX9_letterIn 4 = .ok (.iload_n 2, 1) := by decide +kernel
theorem dX9_letterIn_5 : decode cX9_letterIn 5 = .ok (.aload_n 0, 1) := by decide +kernel
theorem dX9_letterIn_6 : decode cX9_letterIn 6 = .ok (.iload_n 1, 1) := by decide +kernel
theorem dX9_letterIn_7 : decode cX9_letterIn 7 = .ok (.invokevirtual 36, 3) := by decide +kernel
theorem dX9_letterIn_10 : decode cX9_letterIn 10 = .ok (.if_icmp .ge 13, 3) := by decide +kernel
theorem dX9_letterIn_13 : decode cX9_letterIn 13 = .ok (.iload_n 2, 1) := by decide +kernel
theorem dX9_letterIn_14 : decode cX9_letterIn 14 = .ok (.bipush 8, 2) := by decide +kernel
theorem dX9_letterIn_16 : decode cX9_letterIn 16 = .ok (.if_icmp .ge 7, 3) := by decide +kernel
theorem dX9_letterIn_19 : decode cX9_letterIn 19 = .ok (.iconst 1, 1) := by decide +kernel
theorem dX9_letterIn_20 : decode cX9_letterIn 20 = .ok (.goto 4, 3) := by decide +kernel
theorem dX9_letterIn_23 : decode cX9_letterIn 23 = .ok (.iconst 0, 1) := by decide +kernel
theorem dX9_letterIn_24 : decode cX9_letterIn 24 = .ok (.istore_n 3, 1) := by decide +kernel
theorem dX9_letterIn_25 : decode cX9_letterIn 25 = .ok (.iload_n 3, 1) := by decide +kernel
theorem dX9_letterIn_26 : decode cX9_letterIn 26 = .ok (.ifCond .eq 17, 3) := by decide +kernel
theorem dX9_letterIn_29 : decode cX9_letterIn 29 = .ok (.aload_n 0, 1) := by decide +kernel
theorem dX9_letterIn_30 : decode cX9_letterIn 30 = .ok (.getfield 9, 3) := by decide +kernel
theorem dX9_letterIn_33 : decode cX9_letterIn 33 = .ok (.iload_n 1, 1) := by decide +kernel
theorem dX9_letterIn_34 : decode cX9_letterIn 34 = .ok (.bipush 8, 2) := by decide +kernel
theorem dX9_letterIn_36 : decode cX9_letterIn 36 = .ok (.imul, 1) := by decide +kernel
theorem dX9_letterIn_37 : decode cX9_letterIn 37 = .ok (.iload_n 2, 1) := by decide +kernel
theorem dX9_letterIn_38 : decode cX9_letterIn 38 = .ok (.iadd, 1) := by decide +kernel
theorem dX9_letterIn_39 : decode cX9_letterIn 39 = .ok (.caload, 1) := by decide +kernel
theorem dX9_letterIn_40 : decode cX9_letterIn 40 = .ok (.goto 5, 3) := by decide +kernel
theorem dX9_letterIn_43 : decode cX9_letterIn 43 = .ok (.bipush 32, 2) := by decide +kernel
theorem dX9_letterIn_45 : decode cX9_letterIn 45 = .ok (.ireturn, 1) := by decide +kernel
theorem dX9_numberIn_0 : decode cX9_numberIn 0 = .ok (.aload_n 0, 1) := by decide +kernel
theorem dX9_numberIn_1 : decode cX9_numberIn 1 = .ok (.iload_n 1, 1) := by decide +kernel
theorem dX9_numberIn_2 : decode cX9_numberIn 2 = .ok (.invokevirtual 36, 3) := by decide +kernel
theorem dX9_numberIn_5 : decode cX9_numberIn 5 = .ok (.istore_n 2, 1) := by decide +kernel
theorem dX9_numberIn_6 : decode cX9_numberIn 6 = .ok (.iload_n 2, 1) := by decide +kernel
theorem dX9_numberIn_7 : decode cX9_numberIn 7 = .ok (.iconst 1, 1) := by decide +kernel
theorem dX9_numberIn_8 : decode cX9_numberIn 8 = .ok (.if_icmp .lt 8, 3) := by decide +kernel
theorem dX9_numberIn_11 : decode cX9_numberIn 11 = .ok (.iload_n 2, 1) := by decide +kernel
theorem dX9_numberIn_12 : decode cX9_numberIn 12 = .ok (.iconst 4, 1) := by decide +kernel
theorem dX9_numberIn_13 : decode cX9_numberIn 13 = .ok (.if_icmp .le 5, 3) := by decide +kernel
theorem dX9_numberIn_16 : decode cX9_numberIn 16 = .ok (.iconst (-1), 1) := by decide +kernel
theorem dX9_numberIn_17 : decode cX9_numberIn 17 = .ok (.ireturn, 1) := by decide +kernel
theorem dX9_numberIn_18 : decode cX9_numberIn 18 = .ok (.iconst 0, 1) := by decide +kernel
theorem dX9_numberIn_19 : decode cX9_numberIn 19 = .ok (.istore_n 3, 1) := by decide +kernel
theorem dX9_numberIn_20 : decode cX9_numberIn 20 = .ok (.iconst 0, 1) := by decide +kernel
theorem dX9_numberIn_21 : decode cX9_numberIn 21 = .ok (.istore 4, 2) := by decide +kernel
theorem dX9_numberIn_23 : decode cX9_numberIn 23 = .ok (.iload 4, 2) := by decide +kernel
theorem dX9_numberIn_25 : decode cX9_numberIn 25 = .ok (.iload_n 2, 1) := by decide +kernel
theorem dX9_numberIn_26 : decode cX9_numberIn 26 = .ok (.if_icmp .ge 45, 3) := by decide +kernel
theorem dX9_numberIn_29 : decode cX9_numberIn 29 = .ok (.aload_n 0, 1) := by decide +kernel
theorem dX9_numberIn_30 : decode cX9_numberIn 30 = .ok (.iload_n 1, 1) := by decide +kernel
theorem dX9_numberIn_31 : decode cX9_numberIn 31 = .ok (.iload 4, 2) := by decide +kernel
theorem dX9_numberIn_33 : decode cX9_numberIn 33 = .ok (.invokevirtual 40, 3) := by decide +kernel
theorem dX9_numberIn_36 : decode cX9_numberIn 36 = .ok (.istore 5, 2) := by decide +kernel
theorem dX9_numberIn_38 : decode cX9_numberIn 38 = .ok (.iload 5, 2) := by decide +kernel
theorem dX9_numberIn_40 : decode cX9_numberIn 40 = .ok (.bipush 48, 2) := by decide +kernel
theorem dX9_numberIn_42 : decode cX9_numberIn 42 = .ok (.if_icmp .lt 10, 3) := by decide +kernel
theorem dX9_numberIn_45 : decode cX9_numberIn 45 = .ok (.iload 5, 2) := by decide +kernel
theorem dX9_numberIn_47 : decode cX9_numberIn 47 = .ok (.bipush 57, 2) := by decide +kernel
theorem dX9_numberIn_49 : decode cX9_numberIn 49 = .ok (.if_icmp .le 5, 3) := by decide +kernel
theorem dX9_numberIn_52 : decode cX9_numberIn 52 = .ok (.iconst (-1), 1) := by decide +kernel
theorem dX9_numberIn_53 : decode cX9_numberIn 53 = .ok (.ireturn, 1) := by decide +kernel
theorem dX9_numberIn_54 : decode cX9_numberIn 54 = .ok (.iload_n 3, 1) := by decide +kernel
theorem dX9_numberIn_55 : decode cX9_numberIn 55 = .ok (.bipush 10, 2) := by decide +kernel
theorem dX9_numberIn_57 : decode cX9_numberIn 57 = .ok (.imul, 1) := by decide +kernel
theorem dX9_numberIn_58 : decode cX9_numberIn 58 = .ok (.iload 5, 2) := by decide +kernel
theorem dX9_numberIn_60 : decode cX9_numberIn 60 = .ok (.bipush 48, 2) := by decide +kernel
theorem dX9_numberIn_62 : decode cX9_numberIn 62 = .ok (.isub, 1) := by decide +kernel
theorem dX9_numberIn_63 : decode cX9_numberIn 63 = .ok (.iadd, 1) := by decide +kernel
theorem dX9_numberIn_64 : decode cX9_numberIn 64 = .ok (.istore_n 3, 1) := by decide +kernel
theorem dX9_numberIn_65 : decode cX9_numberIn 65 = .ok (.iinc 4 1, 3) := by decide +kernel
theorem dX9_numberIn_68 : decode cX9_numberIn 68 = .ok (.goto (-45), 3) := by decide +kernel
theorem dX9_numberIn_71 : decode cX9_numberIn 71 = .ok (.iload_n 3, 1) := by decide +kernel
theorem dX9_numberIn_72 : decode cX9_numberIn 72 = .ok (.ireturn, 1) := by decide +kernel
theorem dX9_isEnvelope_0 : decode cX9_isEnvelope 0 = .ok (.aload_n 0, 1) := by decide +kernel
theorem dX9_isEnvelope_1 : decode cX9_isEnvelope 1 = .ok (.getfield 19, 3) := by decide +kernel
theorem dX9_isEnvelope_4 : decode cX9_isEnvelope 4 = .ok (.iload_n 1, 1) := by decide +kernel
theorem dX9_isEnvelope_5 : decode cX9_isEnvelope 5 = .ok (.if_icmp .ne 11, 3) := by decide +kernel
theorem dX9_isEnvelope_8 : decode cX9_isEnvelope 8 = .ok (.aload_n 0, 1) := by decide +kernel
theorem dX9_isEnvelope_9 : decode cX9_isEnvelope 9 = .ok (.getfield 27, 3) := by decide +kernel
theorem dX9_isEnvelope_12 : decode cX9_isEnvelope 12 = .ok (.iload_n 2, 1) := by decide +kernel
theorem dX9_isEnvelope_13 : decode cX9_isEnvelope 13 = .ok (.if_icmp .eq 5, 3) := by decide +kernel
theorem dX9_isEnvelope_16 : decode cX9_isEnvelope 16 = .ok (.iconst 0, 1) := by decide +kernel
theorem dX9_isEnvelope_17 : decode cX9_isEnvelope 17 = .ok (.ireturn, 1) := by decide +kernel
theorem dX9_isEnvelope_18 : decode cX9_isEnvelope 18 = .ok (.iconst 0, 1) := by decide +kernel
theorem dX9_isEnvelope_19 : decode cX9_isEnvelope 19 = .ok (.istore_n 3, 1) := by decide +kernel
theorem dX9_isEnvelope_20 : decode cX9_isEnvelope 20 = .ok (.iload_n 3, 1) := by decide +kernel
theorem dX9_isEnvelope_21 : decode cX9_isEnvelope 21 = .ok (.iload_n 2, 1) := by decide +kernel
theorem dX9_isEnvelope_22 : decode cX9_isEnvelope 22 = .ok (.if_icmp .ge 19, 3) := by decide +kernel
theorem dX9_isEnvelope_25 : decode cX9_isEnvelope 25 = .ok (.aload_n 0, 1) := by decide +kernel
theorem dX9_isEnvelope_26 : decode cX9_isEnvelope 26 = .ok (.iload_n 3, 1) := by decide +kernel
theorem dX9_isEnvelope_27 : decode cX9_isEnvelope 27 = .ok (.invokevirtual 44, 3) := by decide +kernel
theorem dX9_isEnvelope_30 : decode cX9_isEnvelope 30 = .ok (.ifCond .ge 5, 3) := by decide +kernel
theorem dX9_isEnvelope_33 : decode cX9_isEnvelope 33 = .ok (.iconst 0, 1) := by decide +kernel
theorem dX9_isEnvelope_34 : decode cX9_isEnvelope 34 = .ok (.ireturn, 1) := by decide +kernel
theorem dX9_isEnvelope_35 : decode cX9_isEnvelope 35 = .ok (.iinc 3 1, 3) := by decide +kernel
theorem dX9_isEnvelope_38 : decode cX9_isEnvelope 38 = .ok (.goto (-18), 3) := by decide +kernel
theorem dX9_isEnvelope_41 : decode cX9_isEnvelope 41 = .ok (.iconst 1, 1) := by decide +kernel
theorem dX9_isEnvelope_42 : decode cX9_isEnvelope 42 = .ok (.ireturn, 1) := by decide +kernel
theorem dX10_init_0 : decode cX10_init 0 = .ok (.aload_n 0, 1) := by decide +kernel
theorem dX10_init_1 : decode cX10_init 1 = .ok (.invokespecial 3, 3) := by decide +kernel
theorem dX10_init_4 : decode cX10_init 4 = .ok (.aload_n 0, 1) := by decide +kernel
theorem dX10_init_5 : decode cX10_init 5 = .ok (.sipush 300, 3) := by decide +kernel
theorem dX10_init_8 : decode cX10_init 8 = .ok (.newarray .char, 2) := by decide +kernel
theorem dX10_init_10 : decode cX10_init 10 = .ok (.putfield 9, 3) := by decide +kernel
theorem dX10_init_13 : decode cX10_init 13 = .ok (.return_, 1) := by decide +kernel
theorem dX10_wipe_0 : decode cX10_wipe 0 = .ok (.aload_n 0, 1) := by decide +kernel
theorem dX10_wipe_1 : decode cX10_wipe 1 = .ok (.iconst 0, 1) := by decide +kernel
theorem dX10_wipe_2 : decode cX10_wipe 2 = .ok (.putfield 15, 3) := by decide +kernel
theorem dX10_wipe_5 : decode cX10_wipe 5 = .ok (.aload_n 0, 1) := by decide +kernel
theorem dX10_wipe_6 : decode cX10_wipe 6 = .ok (.iconst 0, 1) := by decide +kernel
theorem dX10_wipe_7 : decode cX10_wipe 7 = .ok (.putfield 19, 3) := by decide +kernel
theorem dX10_wipe_10 : decode cX10_wipe 10 = .ok (.return_, 1) := by decide +kernel
theorem dX10_count_0 : decode cX10_count 0 = .ok (.aload_n 0, 1) := by decide +kernel
theorem dX10_count_1 : decode cX10_count 1 = .ok (.getfield 15, 3) := by decide +kernel
theorem dX10_count_4 : decode cX10_count 4 = .ok (.ireturn, 1) := by decide +kernel
theorem dX10_isOverfull_0 : decode cX10_isOverfull 0 = .ok (.aload_n 0, 1) := by decide +kernel
theorem dX10_isOverfull_1 : decode cX10_isOverfull 1 = .ok (.getfield 19, 3) := by decide +kernel
theorem dX10_isOverfull_4 : decode cX10_isOverfull 4 = .ok (.ireturn, 1) := by decide +kernel
theorem dX10_at_0 : decode cX10_at 0 = .ok (.iload_n 1, 1) := by decide +kernel
theorem dX10_at_1 : decode cX10_at 1 = .ok (.ifCond .lt 20, 3) := by decide +kernel
theorem dX10_at_4 : decode cX10_at 4 = .ok (.iload_n 1, 1) := by decide +kernel
theorem dX10_at_5 : decode cX10_at 5 = .ok (.aload_n 0, 1) := by decide +kernel
theorem dX10_at_6 : decode cX10_at 6 = .ok (.getfield 15, 3) := by decide +kernel
theorem dX10_at_9 : decode cX10_at 9 = .ok (.if_icmp .ge 12, 3) := by decide +kernel
theorem dX10_at_12 : decode cX10_at 12 = .ok (.aload_n 0, 1) := by decide +kernel
theorem dX10_at_13 : decode cX10_at 13 = .ok (.getfield 9, 3) := by decide +kernel
theorem dX10_at_16 : decode cX10_at 16 = .ok (.iload_n 1, 1) := by decide +kernel
theorem dX10_at_17 : decode cX10_at 17 = .ok (.caload, 1) := by decide +kernel
theorem dX10_at_18 : decode cX10_at 18 = .ok (.goto 5, 3) := by decide +kernel
theorem dX10_at_21 : decode cX10_at 21 = .ok (.bipush 32, 2) := by decide +kernel
theorem dX10_at_23 : decode cX10_at 23 = .ok (.ireturn, 1) := by decide +kernel
theorem dX10_put_0 : decode cX10_put 0 = .ok (.aload_n 0, 1) := by decide +kernel
theorem dX10_put_1 : decode cX10_put 1 = .ok (.getfield 15, 3) := by decide +kernel
theorem dX10_put_4 : decode cX10_put 4 = .ok (.aload_n 0, 1) := by decide +kernel
theorem dX10_put_5 : decode cX10_put 5 = .ok (.getfield 9, 3) := by decide +kernel
theorem dX10_put_8 : decode cX10_put 8 = .ok (.arraylength, 1) := by decide +kernel
theorem dX10_put_9 : decode cX10_put 9 = .ok (.if_icmp .lt 9, 3) := by decide +kernel
theorem dX10_put_12 : decode cX10_put 12 = .ok (.aload_n 0, 1) := by decide +kernel
theorem dX10_put_13 : decode cX10_put 13 = .ok (.iconst 1, 1) := by decide +kernel
theorem dX10_put_14 : decode cX10_put 14 = .ok (.putfield 19, 3) := by decide +kernel
theorem dX10_put_17 : decode cX10_put 17 = .ok (.return_, 1) := by decide +kernel
theorem dX10_put_18 : decode cX10_put 18 = .ok (.aload_n 0, 1) := by decide +kernel
theorem dX10_put_19 : decode cX10_put 19 = .ok (.getfield 9, 3) := by decide +kernel
theorem dX10_put_22 : decode cX10_put 22 = .ok (.aload_n 0, 1) := by decide +kernel
theorem dX10_put_23 : decode cX10_put 23 = .ok (.getfield 15, 3) := by decide +kernel
theorem dX10_put_26 : decode cX10_put 26 = .ok (.iload_n 1, 1) := by decide +kernel
theorem dX10_put_27 : decode cX10_put 27 = .ok (.castore, 1) := by decide +kernel
theorem dX10_put_28 : decode cX10_put 28 = .ok (.aload_n 0, 1) := by decide +kernel
theorem dX10_put_29 : decode cX10_put 29 = .ok (.dup, 1) := by decide +kernel
theorem dX10_put_30 : decode cX10_put 30 = .ok (.getfield 15, 3) := by decide +kernel
theorem dX10_put_33 : decode cX10_put 33 = .ok (.iconst 1, 1) := by decide +kernel
theorem dX10_put_34 : decode cX10_put 34 = .ok (.iadd, 1) := by decide +kernel
theorem dX10_put_35 : decode cX10_put 35 = .ok (.putfield 15, 3) := by decide +kernel
theorem dX10_put_38 : decode cX10_put 38 = .ok (.return_, 1) := by decide +kernel
theorem dX10_putAll_0 : decode cX10_putAll 0 = .ok (.iconst 0, 1) := by decide +kernel
theorem dX10_putAll_1 : decode cX10_putAll 1 = .ok (.istore_n 2, 1) := by decide +kernel
theorem dX10_putAll_2 : decode cX10_putAll 2 = .ok (.iload_n 2, 1) := by decide +kernel
theorem dX10_putAll_3 : decode cX10_putAll 3 = .ok (.aload_n 1, 1) := by decide +kernel
theorem dX10_putAll_4 : decode cX10_putAll 4 = .ok (.getfield 15, 3) := by decide +kernel
theorem dX10_putAll_7 : decode cX10_putAll 7 = .ok (.if_icmp .ge 18, 3) := by decide +kernel
theorem dX10_putAll_10 : decode cX10_putAll 10 = .ok (.aload_n 0, 1) := by decide +kernel
theorem dX10_putAll_11 : decode cX10_putAll 11 = .ok (.aload_n 1, 1) := by decide +kernel
theorem dX10_putAll_12 : decode cX10_putAll 12 = .ok (.iload_n 2, 1) := by decide +kernel
theorem dX10_putAll_13 : decode cX10_putAll 13 = .ok (.invokevirtual 23, 3) := by decide +kernel
theorem dX10_putAll_16 : decode cX10_putAll 16 = .ok (.invokevirtual 27, 3) := by decide +kernel
theorem dX10_putAll_19 : decode cX10_putAll 19 = .ok (.iinc 2 1, 3) := by decide +kernel
theorem dX10_putAll_22 : decode cX10_putAll 22 = .ok (.goto (-20), 3) := by decide +kernel
theorem dX10_putAll_25 : decode cX10_putAll 25 = .ok (.return_, 1) := by decide +kernel
theorem dX10_putReleased_0 : decode cX10_putReleased 0 = .ok (.iload_n 1, 1) := by decide +kernel
theorem dX10_putReleased_1 : decode cX10_putReleased 1 = .ok (.bipush 43, 2) := by decide +kernel
theorem dX10_putReleased_3 : decode cX10_putReleased 3 = .ok (.if_icmp .eq 15, 3) := by decide +kernel
theorem dX10_putReleased_6 : decode cX10_putReleased 6 = .ok (.iload_n 1, 1) := by decide +kernel
theorem dX10_putReleased_7 : decode cX10_putReleased 7 = .ok (.bipush 39, 2) := by decide +kernel
theorem dX10_putReleased_9 : decode cX10_putReleased 9 = .ok (.if_icmp .eq 9, 3) := by decide +kernel
theorem dX10_putReleased_12 : decode cX10_putReleased 12 = .ok (.iload_n 1, 1) := by decide +kernel
theorem dX10_putReleased_13 : decode cX10_putReleased 13 = .ok (.bipush 63, 2) := by decide +kernel
theorem dX10_putReleased_15 : decode cX10_putReleased 15 = .ok (.if_icmp .ne 9, 3) := by decide +kernel
theorem dX10_putReleased_18 : decode cX10_putReleased 18 = .ok (.aload_n 0, 1) := by decide +kernel
theorem dX10_putReleased_19 : decode cX10_putReleased 19 = .ok (.bipush 63, 2) := by decide +kernel
theorem dX10_putReleased_21 : decode cX10_putReleased 21 = .ok (.invokevirtual 27, 3) := by decide +kernel
theorem dX10_putReleased_24 : decode cX10_putReleased 24 = .ok (.aload_n 0, 1) := by decide +kernel
theorem dX10_putReleased_25 : decode cX10_putReleased 25 = .ok (.iload_n 1, 1) := by decide +kernel
theorem dX10_putReleased_26 : decode cX10_putReleased 26 = .ok (.invokevirtual 27, 3) := by decide +kernel
theorem dX10_putReleased_29 : decode cX10_putReleased 29 = .ok (.return_, 1) := by decide +kernel
theorem dX10_putNumber_0 : decode cX10_putNumber 0 = .ok (.sipush 1000, 3) := by decide +kernel
theorem dX10_putNumber_3 : decode cX10_putNumber 3 = .ok (.istore_n 2, 1) := by decide +kernel
theorem dX10_putNumber_4 : decode cX10_putNumber 4 = .ok (.iload_n 2, 1) := by decide +kernel
theorem dX10_putNumber_5 : decode cX10_putNumber 5 = .ok (.ifCond .le 35, 3) := by decide +kernel
theorem dX10_putNumber_8 : decode cX10_putNumber 8 = .ok (.iload_n 1, 1) := by decide +kernel
theorem dX10_putNumber_9 : decode cX10_putNumber 9 = .ok (.iload_n 2, 1) := by decide +kernel
theorem dX10_putNumber_10 : decode cX10_putNumber 10 = .ok (.if_icmp .ge 8, 3) := by decide +kernel
theorem dX10_putNumber_13 : decode cX10_putNumber 13 = .ok (.iload_n 2, 1) := by decide +kernel
theorem dX10_putNumber_14 : decode cX10_putNumber 14 = .ok (.iconst 1, 1) := by decide +kernel
theorem dX10_putNumber_15 : decode cX10_putNumber 15 = .ok (.if_icmp .ne 17, 3) := by decide +kernel
theorem dX10_putNumber_18 : decode cX10_putNumber 18 = .ok (.aload_n 0, 1) := by decide +kernel
theorem dX10_putNumber_19 : decode cX10_putNumber 19 = .ok (.bipush 48, 2) := by decide +kernel
theorem dX10_putNumber_21 : decode cX10_putNumber 21 = .ok (.iload_n 1, 1) := by decide +kernel
theorem dX10_putNumber_22 : decode cX10_putNumber 22 = .ok (.iload_n 2, 1) := by decide +kernel
theorem dX10_putNumber_23 : decode cX10_putNumber 23 = .ok (.idiv, 1) := by decide +kernel
theorem dX10_putNumber_24 : decode cX10_putNumber 24 = .ok (.bipush 10, 2) := by decide +kernel
theorem dX10_putNumber_26 : decode cX10_putNumber 26 = .ok (.irem, 1) := by decide +kernel
theorem dX10_putNumber_27 : decode cX10_putNumber 27 = .ok (.iadd, 1) := by decide +kernel
theorem dX10_putNumber_28 : decode cX10_putNumber 28 = .ok (.i2c, 1) := by decide +kernel
theorem dX10_putNumber_29 : decode cX10_putNumber 29 = .ok (.invokevirtual 27, 3) := by decide +kernel
theorem dX10_putNumber_32 : decode cX10_putNumber 32 = .ok (.iload_n 2, 1) := by decide +kernel
theorem dX10_putNumber_33 : decode cX10_putNumber 33 = .ok (.bipush 10, 2) := by decide +kernel
theorem dX10_putNumber_35 : decode cX10_putNumber 35 = .ok (.idiv, 1) := by decide +kernel
theorem dX10_putNumber_36 : decode cX10_putNumber 36 = .ok (.istore_n 2, 1) := by decide +kernel
theorem dX10_putNumber_37 : decode cX10_putNumber 37 = .ok (.goto (-33), 3) := by decide +kernel
theorem dX10_putNumber_40 : decode cX10_putNumber 40 = .ok (.return_, 1) := by decide +kernel
end
section
theorem dX11_init_0 : decode cX11_init 0 = .ok (.aload_n 0, 1) := by decide +kernel
theorem dX11_init_1 : decode cX11_init 1 = .ok (.invokespecial 3, 3) := by decide +kernel
theorem dX11_init_4 : decode cX11_init 4 = .ok (.aload_n 0, 1) := by decide +kernel
theorem dX11_init_5 : decode cX11_init 5 = .ok (.new 9, 3) := by decide +kernel
theorem dX11_init_8 : decode cX11_init 8 = .ok (.dup, 1) := by decide +kernel
theorem dX11_init_9 : decode cX11_init 9 = .ok (.invokespecial 11, 3) := by decide +kernel
theorem dX11_init_12 : decode cX11_init 12 = .ok (.putfield 12, 3) := by decide +kernel
theorem dX11_init_15 : decode cX11_init 15 = .ok (.aload_n 0, 1) := by decide +kernel
theorem dX11_init_16 : decode cX11_init 16 = .ok (.new 16, 3) := by decide +kernel
theorem dX11_init_19 : decode cX11_init 19 = .ok (.dup, 1) := by decide +kernel
theorem dX11_init_20 : decode cX11_init 20 = .ok (.invokespecial 18, 3) := by decide +kernel
theorem dX11_init_23 : decode cX11_init 23 = .ok (.putfield 19, 3) := by decide +kernel
theorem dX11_init_26 : decode cX11_init 26 = .ok (.aload_n 0, 1) := by decide +kernel
theorem dX11_init_27 : decode cX11_init 27 = .ok (.new 23, 3) := by decide +kernel
theorem dX11_init_30 : decode cX11_init 30 = .ok (.dup, 1) := by decide +kernel
theorem dX11_init_31 : decode cX11_init 31 = .ok (.invokespecial 25, 3) := by decide +kernel
theorem dX11_init_34 : decode cX11_init 34 = .ok (.putfield 26, 3) := by decide +kernel
theorem dX11_init_37 : decode cX11_init 37 = .ok (.aload_n 0, 1) := by decide +kernel
theorem dX11_init_38 : decode cX11_init 38 = .ok (.new 30, 3) := by decide +kernel
theorem dX11_init_41 : decode cX11_init 41 = .ok (.dup, 1) := by decide +kernel
theorem dX11_init_42 : decode cX11_init 42 = .ok (.aload_n 0, 1) := by decide +kernel
theorem dX11_init_43 : decode cX11_init 43 = .ok (.getfield 12, 3) := by decide +kernel
theorem dX11_init_46 : decode cX11_init 46 = .ok (.aload_n 0, 1) := by decide +kernel
theorem dX11_init_47 : decode cX11_init 47 = .ok (.getfield 26, 3) := by decide +kernel
theorem dX11_init_50 : decode cX11_init 50 = .ok (.invokespecial 32, 3) := by decide +kernel
theorem dX11_init_53 : decode cX11_init 53 = .ok (.putfield 35, 3) := by decide +kernel
theorem dX11_init_56 : decode cX11_init 56 = .ok (.aload_n 0, 1) := by decide +kernel
theorem dX11_init_57 : decode cX11_init 57 = .ok (.new 39, 3) := by decide +kernel
theorem dX11_init_60 : decode cX11_init 60 = .ok (.dup, 1) := by decide +kernel
theorem dX11_init_61 : decode cX11_init 61 = .ok (.invokespecial 41, 3) := by decide +kernel
theorem dX11_init_64 : decode cX11_init 64 = .ok (.putfield 42, 3) := by decide +kernel
theorem dX11_init_67 : decode cX11_init 67 = .ok (.aload_n 0, 1) := by decide +kernel
theorem dX11_init_68 : decode cX11_init 68 = .ok (.new 46, 3) := by decide +kernel
theorem dX11_init_71 : decode cX11_init 71 = .ok (.dup, 1) := by decide +kernel
theorem dX11_init_72 : decode cX11_init 72 = .ok (.invokespecial 48, 3) := by decide +kernel
theorem dX11_init_75 : decode cX11_init 75 = .ok (.putfield 49, 3) := by decide +kernel
theorem dX11_init_78 : decode cX11_init 78 = .ok (.aload_n 0, 1) := by decide +kernel
theorem dX11_init_79 : decode cX11_init 79 = .ok (.new 46, 3) := by decide +kernel
theorem dX11_init_82 : decode cX11_init 82 = .ok (.dup, 1) := by decide +kernel
theorem dX11_init_83 : decode cX11_init 83 = .ok (.invokespecial 48, 3) := by decide +kernel
theorem dX11_init_86 : decode cX11_init 86 = .ok (.putfield 53, 3) := by decide +kernel
theorem dX11_init_89 : decode cX11_init 89 = .ok (.aload_n 0, 1) := by decide +kernel
theorem dX11_init_90 : decode cX11_init 90 = .ok (.new 16, 3) := by decide +kernel
theorem dX11_init_93 : decode cX11_init 93 = .ok (.dup, 1) := by decide +kernel
theorem dX11_init_94 : decode cX11_init 94 = .ok (.invokespecial 18, 3) := by decide +kernel
theorem dX11_init_97 : decode cX11_init 97 = .ok (.putfield 56, 3) := by decide +kernel
theorem dX11_init_100 : decode cX11_init 100 = .ok (.aload_n 0, 1) := by decide +kernel
theorem dX11_init_101 : decode cX11_init 101 = .ok (.new 16, 3) := by decide +kernel
theorem dX11_init_104 : decode cX11_init 104 = .ok (.dup, 1) := by decide +kernel
theorem dX11_init_105 : decode cX11_init 105 = .ok (.invokespecial 18, 3) := by decide +kernel
theorem dX11_init_108 : decode cX11_init 108 = .ok (.putfield 59, 3) := by decide +kernel
theorem dX11_init_111 : decode cX11_init 111 = .ok (.return_, 1) := by decide +kernel
theorem dX11_addItem_0 : decode cX11_addItem 0 = .ok (.iload_n 1, 1) := by decide +kernel
theorem dX11_addItem_1 : decode cX11_addItem 1 = .ok (.invokestatic 62, 3) := by decide +kernel
theorem dX11_addItem_4 : decode cX11_addItem 4 = .ok (.ifCond .eq 11, 3) := by decide +kernel
theorem dX11_addItem_7 : decode cX11_addItem 7 = .ok (.iload_n 2, 1) := by decide +kernel
theorem dX11_addItem_8 : decode cX11_addItem 8 = .ok (.iload_n 3, 1) := by decide +kernel
theorem dX11_addItem_9 : decode cX11_addItem 9 = .ok (.invokestatic 66, 3) := by decide +kernel
theorem dX11_addItem_12 : decode cX11_addItem 12 = .ok (.ifCond .ne 13, 3) := by decide +kernel
theorem dX11_addItem_15 : decode cX11_addItem 15 = .ok (.new 70, 3) := by decide +kernel
theorem dX11_addItem_18 : decode cX11_addItem 18 = .ok (.dup, 1) := by decide +kernel
theorem dX11_addItem_19 : decode cX11_addItem 19 = .ok (.ldc 72, 2) := by decide +kernel
theorem dX11_addItem_21 : decode cX11_addItem 21 = .ok (.invokespecial 74, 3) := by decide +kernel
theorem dX11_addItem_24 : decode cX11_addItem 24 = .ok (.athrow, 1) := by decide +kernel
theorem dX11_addItem_25 : decode cX11_addItem 25 = .ok (.aload_n 0, 1) := by decide +kernel
theorem dX11_addItem_26 : decode cX11_addItem 26 = .ok (.getfield 12, 3) := by decide +kernel
theorem dX11_addItem_29 : decode cX11_addItem 29 = .ok (.invokevirtual 77, 3) := by decide +kernel
theorem dX11_addItem_32 : decode cX11_addItem 32 = .ok (.bipush 10, 2) := by decide +kernel
theorem dX11_addItem_34 : decode cX11_addItem 34 = .ok (.if_icmp .lt 13, 3) := by decide +kernel
theorem dX11_addItem_37 : decode cX11_addItem 37 = .ok (.new 81, 3) := by decide +kernel
theorem dX11_addItem_40 : decode cX11_addItem 40 = .ok (.dup, 1) := by decide +kernel
theorem dX11_addItem_41 : decode cX11_addItem 41 = .ok (.ldc 83, 2) := by decide +kernel
theorem dX11_addItem_43 : decode cX11_addItem 43 = .ok (.invokespecial 85, 3) := by decide +kernel
theorem dX11_addItem_46 : decode cX11_addItem 46 = .ok (.athrow, 1) := by decide +kernel
theorem dX11_addItem_47 : decode cX11_addItem 47 = .ok (.aload_n 0, 1) := by decide +kernel
theorem dX11_addItem_48 : decode cX11_addItem 48 = .ok (.getfield 12, 3) := by decide +kernel
theorem dX11_addItem_51 : decode cX11_addItem 51 = .ok (.iload_n 1, 1) := by decide +kernel
theorem dX11_addItem_52 : decode cX11_addItem 52 = .ok (.iload_n 2, 1) := by decide +kernel
theorem dX11_addItem_53 : decode cX11_addItem 53 = .ok (.iload_n 3, 1) := by decide +kernel
theorem dX11_addItem_54 : decode cX11_addItem 54 = .ok (.invokevirtual 86, 3) := by decide +kernel
theorem dX11_addItem_57 : decode cX11_addItem 57 = .ok (.ireturn, 1) := by decide +kernel
theorem dX11_openLoop_0 : decode cX11_openLoop 0 = .ok (.iload_n 1, 1) := by decide +kernel
theorem dX11_openLoop_1 : decode cX11_openLoop 1 = .ok (.iload_n 2, 1) := by decide +kernel
theorem dX11_openLoop_2 : decode cX11_openLoop 2 = .ok (.invokestatic 66, 3) := by decide +kernel
theorem dX11_openLoop_5 : decode cX11_openLoop 5 = .ok (.ifCond .ne 13, 3) := by decide +kernel
theorem dX11_openLoop_8 : decode cX11_openLoop 8 = .ok (.new 70, 3) := by decide +kernel
theorem dX11_openLoop_11 : decode cX11_openLoop 11 = .ok (.dup, 1) := by decide +kernel
theorem dX11_openLoop_12 : decode cX11_openLoop 12 = .ok (.ldc 90, 2) := by decide +kernel
theorem dX11_openLoop_14 : decode cX11_openLoop 14 = .ok (.invokespecial 74, 3) := by decide +kernel
theorem dX11_openLoop_17 : decode cX11_openLoop 17 = .ok (.athrow, 1) := by decide +kernel
theorem dX11_openLoop_18 : decode cX11_openLoop 18 = .ok (.aload_n 0, 1) := by decide +kernel
theorem dX11_openLoop_19 : decode cX11_openLoop 19 = .ok (.getfield 12, 3) := by decide +kernel
theorem dX11_openLoop_22 : decode cX11_openLoop 22 = .ok (.invokevirtual 92, 3) := by decide +kernel
theorem dX11_openLoop_25 : decode cX11_openLoop 25 = .ok (.ifCond .eq 13, 3) := by decide +kernel
theorem dX11_openLoop_28 : decode cX11_openLoop 28 = .ok (.new 81, 3) := by decide +kernel
theorem dX11_openLoop_31 : decode cX11_openLoop 31 = .ok (.dup, 1) := by decide +kernel
theorem dX11_openLoop_32 : decode cX11_openLoop 32 = .ok (.ldc 96, 2) := by decide +kernel
theorem dX11_openLoop_34 : decode cX11_openLoop 34 = .ok (.invokespecial 85, 3) := by decide +kernel
theorem dX11_openLoop_37 : decode cX11_openLoop 37 = .ok (.athrow, 1) := by decide +kernel
theorem dX11_openLoop_38 : decode cX11_openLoop 38 = .ok (.aload_n 0, 1) := by decide +kernel
theorem dX11_openLoop_39 : decode cX11_openLoop 39 = .ok (.getfield 12, 3) := by decide +kernel
theorem dX11_openLoop_42 : decode cX11_openLoop 42 = .ok (.iload_n 1, 1) := by decide +kernel
theorem dX11_openLoop_43 : decode cX11_openLoop 43 = .ok (.iload_n 2, 1) := by decide +kernel
theorem dX11_openLoop_44 : decode cX11_openLoop 44 = .ok (.invokevirtual 98, 3) := by decide +kernel
theorem dX11_openLoop_47 : decode cX11_openLoop 47 = .ok (.return_, 1) := by decide +kernel
theorem dX11_closeLoop_0 : decode cX11_closeLoop 0 = .ok (.aload_n 0, 1) := by decide +kernel
theorem dX11_closeLoop_1 : decode cX11_closeLoop 1 = .ok (.getfield 12, 3) := by decide +kernel
theorem dX11_closeLoop_4 : decode cX11_closeLoop 4 = .ok (.invokevirtual 92, 3) := by decide +kernel
theorem dX11_closeLoop_7 : decode cX11_closeLoop 7 = .ok (.ifCond .eq 13, 3) := by decide +kernel
theorem dX11_closeLoop_10 : decode cX11_closeLoop 10 = .ok (.aload_n 0, 1) := by decide +kernel
theorem dX11_closeLoop_11 : decode cX11_closeLoop 11 = .ok (.getfield 12, 3) := by decide +kernel
theorem dX11_closeLoop_14 : decode cX11_closeLoop 14 = .ok (.invokevirtual 102, 3) := by decide +kernel
theorem dX11_closeLoop_17 : decode cX11_closeLoop 17 = .ok (.ifCond .ne 13, 3) := by decide +kernel
theorem dX11_closeLoop_20 : decode cX11_closeLoop 20 = .ok (.new 81, 3) := by decide +kernel
theorem dX11_closeLoop_23 : decode cX11_closeLoop 23 = .ok (.dup, 1) := by decide +kernel
theorem dX11_closeLoop_24 : decode cX11_closeLoop 24 = .ok (.ldc 105, 2) := by decide +kernel
theorem dX11_closeLoop_26 : decode cX11_closeLoop 26 = .ok (.invokespecial 85, 3) := by decide +kernel
theorem dX11_closeLoop_29 : decode cX11_closeLoop 29 = .ok (.athrow, 1) := by decide +kernel
theorem dX11_closeLoop_30 : decode cX11_closeLoop 30 = .ok (.aload_n 0, 1) := by decide +kernel
theorem dX11_closeLoop_31 : decode cX11_closeLoop 31 = .ok (.getfield 12, 3) := by decide +kernel
theorem dX11_closeLoop_34 : decode cX11_closeLoop 34 = .ok (.invokevirtual 107, 3) := by decide +kernel
theorem dX11_closeLoop_37 : decode cX11_closeLoop 37 = .ok (.ireturn, 1) := by decide +kernel
theorem dX11_clear_0 : decode cX11_clear 0 = .ok (.aload_n 0, 1) := by decide +kernel
theorem dX11_clear_1 : decode cX11_clear 1 = .ok (.getfield 12, 3) := by decide +kernel
theorem dX11_clear_4 : decode cX11_clear 4 = .ok (.invokevirtual 110, 3) := by decide +kernel
theorem dX11_clear_7 : decode cX11_clear 7 = .ok (.aload_n 0, 1) := by decide +kernel
theorem dX11_clear_8 : decode cX11_clear 8 = .ok (.getfield 42, 3) := by decide +kernel
theorem dX11_clear_11 : decode cX11_clear 11 = .ok (.invokevirtual 113, 3) := by decide +kernel
theorem dX11_clear_14 : decode cX11_clear 14 = .ok (.aload_n 0, 1) := by decide +kernel
theorem dX11_clear_15 : decode cX11_clear 15 = .ok (.iconst 0, 1) := by decide +kernel
theorem dX11_clear_16 : decode cX11_clear 16 = .ok (.putfield 114, 3) := by decide +kernel
theorem dX11_clear_19 : decode cX11_clear 19 = .ok (.return_, 1) := by decide +kernel
theorem dX11_items_0 : decode cX11_items 0 = .ok (.aload_n 0, 1) := by decide +kernel
theorem dX11_items_1 : decode cX11_items 1 = .ok (.getfield 12, 3) := by decide +kernel
theorem dX11_items_4 : decode cX11_items 4 = .ok (.invokevirtual 77, 3) := by decide +kernel
theorem dX11_items_7 : decode cX11_items 7 = .ok (.ireturn, 1) := by decide +kernel
theorem dX11_feed_0 : decode cX11_feed 0 = .ok (.iload_n 1, 1) := by decide +kernel
theorem dX11_feed_1 : decode cX11_feed 1 = .ok (.invokestatic 118, 3) := by decide +kernel
theorem dX11_feed_4 : decode cX11_feed 4 = .ok (.ifCond .ne 13, 3) := by decide +kernel
theorem dX11_feed_7 : decode cX11_feed 7 = .ok (.new 70, 3) := by decide +kernel
theorem dX11_feed_10 : decode cX11_feed 10 = .ok (.dup, 1) := by decide +kernel
theorem dX11_feed_11 : decode cX11_feed 11 = .ok (.ldc 121, 2) := by decide +kernel
theorem dX11_feed_13 : decode cX11_feed 13 = .ok (.invokespecial 74, 3) := by decide +kernel
theorem dX11_feed_16 : decode cX11_feed 16 = .ok (.athrow, 1) := by decide +kernel
theorem dX11_feed_17 : decode cX11_feed 17 = .ok (.aload_n 0, 1) := by decide +kernel
theorem dX11_feed_18 : decode cX11_feed 18 = .ok (.getfield 19, 3) := by decide +kernel
theorem dX11_feed_21 : decode cX11_feed 21 = .ok (.invokevirtual 123, 3) := by decide +kernel
theorem dX11_feed_24 : decode cX11_feed 24 = .ok (.sipush 300, 3) := by decide +kernel
theorem dX11_feed_27 : decode cX11_feed 27 = .ok (.if_icmp .lt 13, 3) := by decide +kernel
theorem dX11_feed_30 : decode cX11_feed 30 = .ok (.new 81, 3) := by decide +kernel
theorem dX11_feed_33 : decode cX11_feed 33 = .ok (.dup, 1) := by decide +kernel
theorem dX11_feed_34 : decode cX11_feed 34 = .ok (.ldc 126, 2) := by decide +kernel
theorem dX11_feed_36 : decode cX11_feed 36 = .ok (.invokespecial 85, 3) := by decide +kernel
theorem dX11_feed_39 : decode cX11_feed 39 = .ok (.athrow, 1) := by decide +kernel
theorem dX11_feed_40 : decode cX11_feed 40 = .ok (.aload_n 0, 1) := by decide +kernel
theorem dX11_feed_41 : decode cX11_feed 41 = .ok (.getfield 19, 3) := by decide +kernel
theorem dX11_feed_44 : decode cX11_feed 44 = .ok (.iload_n 1, 1) := by decide +kernel
theorem dX11_feed_45 : decode cX11_feed 45 = .ok (.invokevirtual 128, 3) := by decide +kernel
theorem dX11_feed_48 : decode cX11_feed 48 = .ok (.aload_n 0, 1) := by decide +kernel
theorem dX11_feed_49 : decode cX11_feed 49 = .ok (.getfield 19, 3) := by decide +kernel
theorem dX11_feed_52 : decode cX11_feed 52 = .ok (.invokevirtual 123, 3) := by decide +kernel
theorem dX11_feed_55 : decode cX11_feed 55 = .ok (.ireturn, 1) := by decide +kernel
theorem dX11_discard_0 : decode cX11_discard 0 = .ok (.aload_n 0, 1) := by decide +kernel
theorem dX11_discard_1 : decode cX11_discard 1 = .ok (.getfield 19, 3) := by decide +kernel
theorem dX11_discard_4 : decode cX11_discard 4 = .ok (.invokevirtual 123, 3) := by decide +kernel
theorem dX11_discard_7 : decode cX11_discard 7 = .ok (.istore_n 1, 1) := by decide +kernel
theorem dX11_discard_8 : decode cX11_discard 8 = .ok (.aload_n 0, 1) := by decide +kernel
theorem dX11_discard_9 : decode cX11_discard 9 = .ok (.getfield 19, 3) := by decide +kernel
theorem dX11_discard_12 : decode cX11_discard 12 = .ok (.invokevirtual 132, 3) := by decide +kernel
theorem dX11_discard_15 : decode cX11_discard 15 = .ok (.iload_n 1, 1) := by decide +kernel
theorem dX11_discard_16 : decode cX11_discard 16 = .ok (.ireturn, 1) := by decide +kernel
theorem dX11_length_0 : decode cX11_length 0 = .ok (.aload_n 0, 1) := by decide +kernel
theorem dX11_length_1 : decode cX11_length 1 = .ok (.getfield 19, 3) := by decide +kernel
theorem dX11_length_4 : decode cX11_length 4 = .ok (.invokevirtual 123, 3) := by decide +kernel
theorem dX11_length_7 : decode cX11_length 7 = .ok (.ireturn, 1) := by decide +kernel
theorem dX11_read_0 : decode cX11_read 0 = .ok (.aload_n 0, 1) := by decide +kernel
theorem dX11_read_1 : decode cX11_read 1 = .ok (.getfield 12, 3) := by decide +kernel
theorem dX11_read_4 : decode cX11_read 4 = .ok (.invokevirtual 92, 3) := by decide +kernel
theorem dX11_read_7 : decode cX11_read 7 = .ok (.ifCond .eq 13, 3) := by decide +kernel
theorem dX11_read_10 : decode cX11_read 10 = .ok (.new 81, 3) := by decide +kernel
theorem dX11_read_13 : decode cX11_read 13 = .ok (.dup, 1) := by decide +kernel
theorem dX11_read_14 : decode cX11_read 14 = .ok (.ldc 96, 2) := by decide +kernel
theorem dX11_read_16 : decode cX11_read 16 = .ok (.invokespecial 85, 3) := by decide +kernel
theorem dX11_read_19 : decode cX11_read 19 = .ok (.athrow, 1) := by decide +kernel
theorem dX11_read_20 : decode cX11_read 20 = .ok (.aload_n 0, 1) := by decide +kernel
theorem dX11_read_21 : decode cX11_read 21 = .ok (.getfield 35, 3) := by decide +kernel
theorem dX11_read_24 : decode cX11_read 24 = .ok (.aload_n 0, 1) := by decide +kernel
theorem dX11_read_25 : decode cX11_read 25 = .ok (.getfield 19, 3) := by decide +kernel
theorem dX11_read_28 : decode cX11_read 28 = .ok (.aload_n 0, 1) := by decide +kernel
theorem dX11_read_29 : decode cX11_read 29 = .ok (.getfield 53, 3) := by decide +kernel
theorem dX11_read_32 : decode cX11_read 32 = .ok (.aload_n 0, 1) := by decide +kernel
theorem dX11_read_33 : decode cX11_read 33 = .ok (.getfield 133, 3) := by decide +kernel
theorem dX11_read_36 : decode cX11_read 36 = .ok (.aload_n 0, 1) := by decide +kernel
theorem dX11_read_37 : decode cX11_read 37 = .ok (.getfield 136, 3) := by decide +kernel
theorem dX11_read_40 : decode cX11_read 40 = .ok (.invokevirtual 140, 3) := by decide +kernel
theorem dX11_read_43 : decode cX11_read 43 = .ok (.ifCond .eq 7, 3) := by decide +kernel
theorem dX11_read_46 : decode cX11_read 46 = .ok (.aload_n 0, 1) := by decide +kernel
theorem dX11_read_47 : decode cX11_read 47 = .ok (.invokevirtual 144, 3) := by decide +kernel
theorem dX11_read_50 : decode cX11_read 50 = .ok (.aload_n 0, 1) := by decide +kernel
theorem dX11_read_51 : decode cX11_read 51 = .ok (.getfield 19, 3) := by decide +kernel
theorem dX11_read_54 : decode cX11_read 54 = .ok (.invokevirtual 132, 3) := by decide +kernel
theorem dX11_read_57 : decode cX11_read 57 = .ok (.aload_n 0, 1) := by decide +kernel
theorem dX11_read_58 : decode cX11_read 58 = .ok (.getfield 26, 3) := by decide +kernel
theorem dX11_read_61 : decode cX11_read 61 = .ok (.invokevirtual 147, 3) := by decide +kernel
theorem dX11_read_64 : decode cX11_read 64 = .ok (.ireturn, 1) := by decide +kernel
theorem dX11_faultKind_0 : decode cX11_faultKind 0 = .ok (.aload_n 0, 1) := by decide +kernel
theorem dX11_faultKind_1 : decode cX11_faultKind 1 = .ok (.iload_n 1, 1) := by decide +kernel
theorem dX11_faultKind_2 : decode cX11_faultKind 2 = .ok (.invokevirtual 148, 3) := by decide +kernel
theorem dX11_faultKind_5 : decode cX11_faultKind 5 = .ok (.aload_n 0, 1) := by decide +kernel
theorem dX11_faultKind_6 : decode cX11_faultKind 6 = .ok (.getfield 26, 3) := by decide +kernel
theorem dX11_faultKind_9 : decode cX11_faultKind 9 = .ok (.iload_n 1, 1) := by decide +kernel
theorem dX11_faultKind_10 : decode cX11_faultKind 10 = .ok (.invokevirtual 152, 3) := by decide +kernel
theorem dX11_faultKind_13 : decode cX11_faultKind 13 = .ok (.ireturn, 1) := by decide +kernel
theorem dX11_faultPlace_0 : decode cX11_faultPlace 0 = .ok (.aload_n 0, 1) := by decide +kernel
theorem dX11_faultPlace_1 : decode cX11_faultPlace 1 = .ok (.iload_n 1, 1) := by decide +kernel
theorem dX11_faultPlace_2 : decode cX11_faultPlace 2 = .ok (.invokevirtual 148, 3) := by decide +kernel
theorem dX11_faultPlace_5 : decode cX11_faultPlace 5 = .ok (.aload_n 0, 1) := by decide +kernel
theorem dX11_faultPlace_6 : decode cX11_faultPlace 6 = .ok (.getfield 26, 3) := by decide +kernel
theorem dX11_faultPlace_9 : decode cX11_faultPlace 9 = .ok (.iload_n 1, 1) := by decide +kernel
theorem dX11_faultPlace_10 : decode cX11_faultPlace 10 = .ok (.invokevirtual 156, 3) := by decide +kernel
theorem dX11_faultPlace_13 : decode cX11_faultPlace 13 = .ok (.ireturn, 1) := by decide +kernel
theorem dX11_control_0 : decode cX11_control 0 = .ok (.aload_n 0, 1) := by decide +kernel
theorem dX11_control_1 : decode cX11_control 1 = .ok (.getfield 133, 3) := by decide +kernel
theorem dX11_control_4 : decode cX11_control 4 = .ok (.ifCond .ne 13, 3) := by decide +kernel
theorem dX11_control_7 : decode cX11_control 7 = .ok (.new 159, 3) := by decide +kernel
theorem dX11_control_10 : decode cX11_control 10 = .ok (.dup, 1) := by decide +kernel
theorem dX11_control_11 : decode cX11_control 11 = .ok (.ldc 161, 2) := by decide +kernel
theorem dX11_control_13 : decode cX11_control 13 = .ok (.invokespecial 163, 3) := by decide +kernel
theorem dX11_control_16 : decode cX11_control 16 = .ok (.athrow, 1) := by decide +kernel
theorem dX11_control_17 : decode cX11_control 17 = .ok (.aload_n 0, 1) := by decide +kernel
theorem dX11_control_18 : decode cX11_control 18 = .ok (.getfield 136, 3) := by decide +kernel
theorem dX11_control_21 : decode cX11_control 21 = .ok (.ireturn, 1) := by decide +kernel
theorem dX11_segments_0 : decode cX11_segments 0 = .ok (.aload_n 0, 1) := by decide +kernel
theorem dX11_segments_1 : decode cX11_segments 1 = .ok (.invokevirtual 164, 3) := by decide +kernel
theorem dX11_segments_4 : decode cX11_segments 4 = .ok (.aload_n 0, 1) := by decide +kernel
theorem dX11_segments_5 : decode cX11_segments 5 = .ok (.getfield 49, 3) := by decide +kernel
theorem dX11_segments_8 : decode cX11_segments 8 = .ok (.invokevirtual 167, 3) := by decide +kernel
theorem dX11_segments_11 : decode cX11_segments 11 = .ok (.ireturn, 1) := by decide +kernel
theorem dX11_tag_0 : decode cX11_tag 0 = .ok (.aload_n 0, 1) := by decide +kernel
theorem dX11_tag_1 : decode cX11_tag 1 = .ok (.iload_n 1, 1) := by decide +kernel
theorem dX11_tag_2 : decode cX11_tag 2 = .ok (.invokevirtual 170, 3) := by decide +kernel
theorem dX11_tag_5 : decode cX11_tag 5 = .ok (.aload_n 0, 1) := by decide +kernel
theorem dX11_tag_6 : decode cX11_tag 6 = .ok (.getfield 49, 3) := by decide +kernel
theorem dX11_tag_9 : decode cX11_tag 9 = .ok (.iload_n 1, 1) := by decide +kernel
theorem dX11_tag_10 : decode cX11_tag 10 = .ok (.invokevirtual 173, 3) := by decide +kernel
theorem dX11_tag_13 : decode cX11_tag 13 = .ok (.invokevirtual 177, 3) := by decide +kernel
theorem dX11_tag_16 : decode cX11_tag 16 = .ok (.ireturn, 1) := by decide +kernel
theorem dX11_elements_0 : decode cX11_elements 0 = .ok (.aload_n 0, 1) := by decide +kernel
theorem dX11_elements_1 : decode cX11_elements 1 = .ok (.iload_n 1, 1) := by decide +kernel
theorem dX11_elements_2 : decode cX11_elements 2 = .ok (.invokevirtual 170, 3) := by decide +kernel
theorem dX11_elements_5 : decode cX11_elements 5 = .ok (.aload_n 0, 1) := by decide +kernel
theorem dX11_elements_6 : decode cX11_elements 6 = .ok (.getfield 49, 3) := by decide +kernel
theorem dX11_elements_9 : decode cX11_elements 9 = .ok (.iload_n 1, 1) := by decide +kernel
theorem dX11_elements_10 : decode cX11_elements 10 = .ok (.invokevirtual 173, 3) := by decide +kernel
theorem dX11_elements_13 : decode cX11_elements 13 = .ok (.invokevirtual 183, 3) := by decide +kernel
theorem dX11_elements_16 : decode cX11_elements 16 = .ok (.ireturn, 1) := by decide +kernel
theorem dX11_contentLength_0 : decode cX11_contentLength 0 = .ok (.aload_n 0, 1) := by decide +kernel
theorem dX11_contentLength_1 : decode cX11_contentLength 1 = .ok (.iload_n 1, 1) := by decide +kernel
theorem dX11_contentLength_2 : decode cX11_contentLength 2 = .ok (.iload_n 2, 1) := by decide +kernel
theorem dX11_contentLength_3 : decode cX11_contentLength 3 = .ok (.invokevirtual 186, 3) := by decide +kernel
theorem dX11_contentLength_6 : decode cX11_contentLength 6 = .ok (.aload_n 0, 1) := by decide +kernel
theorem dX11_contentLength_7 : decode cX11_contentLength 7 = .ok (.getfield 49, 3) := by decide +kernel
theorem dX11_contentLength_10 : decode cX11_contentLength 10 = .ok (.iload_n 1, 1) := by decide +kernel
theorem dX11_contentLength_11 : decode cX11_contentLength 11 = .ok (.invokevirtual 173, 3) := by decide +kernel
theorem dX11_contentLength_14 : decode cX11_contentLength 14 = .ok (.iload_n 2, 1) := by decide +kernel
theorem dX11_contentLength_15 : decode cX11_contentLength 15 = .ok (.invokevirtual 189, 3) := by decide +kernel
theorem dX11_contentLength_18 : decode cX11_contentLength 18 = .ok (.ireturn, 1) := by decide +kernel
theorem dX11_content_0 : decode cX11_content 0 = .ok (.aload_n 0, 1) := by decide +kernel
theorem dX11_content_1 : decode cX11_content 1 = .ok (.iload_n 1, 1) := by decide +kernel
theorem dX11_content_2 : decode cX11_content 2 = .ok (.iload_n 2, 1) := by decide +kernel
theorem dX11_content_3 : decode cX11_content 3 = .ok (.invokevirtual 186, 3) := by decide +kernel
theorem dX11_content_6 : decode cX11_content 6 = .ok (.iload_n 3, 1) := by decide +kernel
theorem dX11_content_7 : decode cX11_content 7 = .ok (.ifCond .lt 19, 3) := by decide +kernel
theorem dX11_content_10 : decode cX11_content 10 = .ok (.iload_n 3, 1) := by decide +kernel
theorem dX11_content_11 : decode cX11_content 11 = .ok (.aload_n 0, 1) := by decide +kernel
theorem dX11_content_12 : decode cX11_content 12 = .ok (.getfield 49, 3) := by decide +kernel
theorem dX11_content_15 : decode cX11_content 15 = .ok (.iload_n 1, 1) := by decide +kernel
theorem dX11_content_16 : decode cX11_content 16 = .ok (.invokevirtual 173, 3) := by decide +kernel
theorem dX11_content_19 : decode cX11_content 19 = .ok (.iload_n 2, 1) := by decide +kernel
theorem dX11_content_20 : decode cX11_content 20 = .ok (.invokevirtual 189, 3) := by decide +kernel
theorem dX11_content_23 : decode cX11_content 23 = .ok (.if_icmp .lt 13, 3) := by decide +kernel
theorem dX11_content_26 : decode cX11_content 26 = .ok (.new 192, 3) := by decide +kernel
theorem dX11_content_29 : decode cX11_content 29 = .ok (.dup, 1) := by decide +kernel
theorem dX11_content_30 : decode cX11_content 30 = .ok (.ldc 194, 2) := by decide +kernel
theorem dX11_content_32 : decode cX11_content 32 = .ok (.invokespecial 196, 3) := by decide +kernel
theorem dX11_content_35 : decode cX11_content 35 = .ok (.athrow, 1) := by decide +kernel
theorem dX11_content_36 : decode cX11_content 36 = .ok (.aload_n 0, 1) := by decide +kernel
theorem dX11_content_37 : decode cX11_content 37 = .ok (.getfield 49, 3) := by decide +kernel
theorem dX11_content_40 : decode cX11_content 40 = .ok (.iload_n 1, 1) := by decide +kernel
theorem dX11_content_41 : decode cX11_content 41 = .ok (.invokevirtual 173, 3) := by decide +kernel
theorem dX11_content_44 : decode cX11_content 44 = .ok (.iload_n 2, 1) := by decide +kernel
theorem dX11_content_45 : decode cX11_content 45 = .ok (.iload_n 3, 1) := by decide +kernel
theorem dX11_content_46 : decode cX11_content 46 = .ok (.invokevirtual 197, 3) := by decide +kernel
theorem dX11_content_49 : decode cX11_content 49 = .ok (.ireturn, 1) := by decide +kernel
theorem dX11_item_0 : decode cX11_item 0 = .ok (.aload_n 0, 1) := by decide +kernel
theorem dX11_item_1 : decode cX11_item 1 = .ok (.iload_n 1, 1) := by decide +kernel
theorem dX11_item_2 : decode cX11_item 2 = .ok (.invokevirtual 170, 3) := by decide +kernel
theorem dX11_item_5 : decode cX11_item 5 = .ok (.aload_n 0, 1) := by decide +kernel
theorem dX11_item_6 : decode cX11_item 6 = .ok (.getfield 49, 3) := by decide +kernel
theorem dX11_item_9 : decode cX11_item 9 = .ok (.iload_n 1, 1) := by decide +kernel
theorem dX11_item_10 : decode cX11_item 10 = .ok (.invokevirtual 173, 3) := by decide +kernel
theorem dX11_item_13 : decode cX11_item 13 = .ok (.invokevirtual 201, 3) := by decide +kernel
theorem dX11_item_16 : decode cX11_item 16 = .ok (.ireturn, 1) := by decide +kernel
theorem dX11_pass_0 : decode cX11_pass 0 = .ok (.aload_n 0, 1) := by decide +kernel
theorem dX11_pass_1 : decode cX11_pass 1 = .ok (.iload_n 1, 1) := by decide +kernel
theorem dX11_pass_2 : decode cX11_pass 2 = .ok (.invokevirtual 170, 3) := by decide +kernel
theorem dX11_pass_5 : decode cX11_pass 5 = .ok (.aload_n 0, 1) := by decide +kernel
theorem dX11_pass_6 : decode cX11_pass 6 = .ok (.getfield 49, 3) := by decide +kernel
theorem dX11_pass_9 : decode cX11_pass 9 = .ok (.iload_n 1, 1) := by decide +kernel
theorem dX11_pass_10 : decode cX11_pass 10 = .ok (.invokevirtual 173, 3) := by decide +kernel
theorem dX11_pass_13 : decode cX11_pass 13 = .ok (.invokevirtual 204, 3) := by decide +kernel
theorem dX11_pass_16 : decode cX11_pass 16 = .ok (.ireturn, 1) := by decide +kernel
theorem dX11_addRule_0 : decode cX11_addRule 0 = .ok (.iload_n 1, 1) := by decide +kernel
theorem dX11_addRule_1 : decode cX11_addRule 1 = .ok (.ifCond .lt 14, 3) := by decide +kernel
theorem dX11_addRule_4 : decode cX11_addRule 4 = .ok (.iload_n 1, 1) := by decide +kernel
theorem dX11_addRule_5 : decode cX11_addRule 5 = .ok (.aload_n 0, 1) := by decide +kernel
theorem dX11_addRule_6 : decode cX11_addRule 6 = .ok (.getfield 12, 3) := by decide +kernel
theorem dX11_addRule_9 : decode cX11_addRule 9 = .ok (.invokevirtual 77, 3) := by decide +kernel
theorem dX11_addRule_12 : decode cX11_addRule 12 = .ok (.if_icmp .lt 13, 3) := by decide +kernel
theorem dX11_addRule_15 : decode cX11_addRule 15 = .ok (.new 192, 3) := by decide +kernel
theorem dX11_addRule_18 : decode cX11_addRule 18 = .ok (.dup, 1) := by decide +kernel
theorem dX11_addRule_19 : decode cX11_addRule 19 = .ok (.ldc 207, 2) := by decide +kernel
theorem dX11_addRule_21 : decode cX11_addRule 21 = .ok (.invokespecial 196, 3) := by decide +kernel
theorem dX11_addRule_24 : decode cX11_addRule 24 = .ok (.athrow, 1) := by decide +kernel
theorem dX11_addRule_25 : decode cX11_addRule 25 = .ok (.iload_n 2, 1) := by decide +kernel
theorem dX11_addRule_26 : decode cX11_addRule 26 = .ok (.invokestatic 62, 3) := by decide +kernel
theorem dX11_addRule_29 : decode cX11_addRule 29 = .ok (.ifCond .ne 13, 3) := by decide +kernel
theorem dX11_addRule_32 : decode cX11_addRule 32 = .ok (.new 70, 3) := by decide +kernel
theorem dX11_addRule_35 : decode cX11_addRule 35 = .ok (.dup, 1) := by decide +kernel
theorem dX11_addRule_36 : decode cX11_addRule 36 = .ok (.ldc 209, 2) := by decide +kernel
theorem dX11_addRule_38 : decode cX11_addRule 38 = .ok (.invokespecial 74, 3) := by decide +kernel
theorem dX11_addRule_41 : decode cX11_addRule 41 = .ok (.athrow, 1) := by decide +kernel
theorem dX11_addRule_42 : decode cX11_addRule 42 = .ok (.aload_n 0, 1) := by decide +kernel
theorem dX11_addRule_43 : decode cX11_addRule 43 = .ok (.getfield 42, 3) := by decide +kernel
theorem dX11_addRule_46 : decode cX11_addRule 46 = .ok (.invokevirtual 211, 3) := by decide +kernel
theorem dX11_addRule_49 : decode cX11_addRule 49 = .ok (.bipush 10, 2) := by decide +kernel
theorem dX11_addRule_51 : decode cX11_addRule 51 = .ok (.if_icmp .lt 13, 3) := by decide +kernel
theorem dX11_addRule_54 : decode cX11_addRule 54 = .ok (.new 81, 3) := by decide +kernel
theorem dX11_addRule_57 : decode cX11_addRule 57 = .ok (.dup, 1) := by decide +kernel
theorem dX11_addRule_58 : decode cX11_addRule 58 = .ok (.ldc 212, 2) := by decide +kernel
theorem dX11_addRule_60 : decode cX11_addRule 60 = .ok (.invokespecial 85, 3) := by decide +kernel
theorem dX11_addRule_63 : decode cX11_addRule 63 = .ok (.athrow, 1) := by decide +kernel
theorem dX11_addRule_64 : decode cX11_addRule 64 = .ok (.aload_n 0, 1) := by decide +kernel
theorem dX11_addRule_65 : decode cX11_addRule 65 = .ok (.getfield 42, 3) := by decide +kernel
theorem dX11_addRule_68 : decode cX11_addRule 68 = .ok (.iload_n 1, 1) := by decide +kernel
theorem dX11_addRule_69 : decode cX11_addRule 69 = .ok (.iload_n 2, 1) := by decide +kernel
theorem dX11_addRule_70 : decode cX11_addRule 70 = .ok (.invokevirtual 214, 3) := by decide +kernel
theorem dX11_addRule_73 : decode cX11_addRule 73 = .ok (.ireturn, 1) := by decide +kernel
theorem dX11_addField_0 : decode cX11_addField 0 = .ok (.aload_n 0, 1) := by decide +kernel
theorem dX11_addField_1 : decode cX11_addField 1 = .ok (.iload_n 1, 1) := by decide +kernel
theorem dX11_addField_2 : decode cX11_addField 2 = .ok (.invokevirtual 218, 3) := by decide +kernel
theorem dX11_addField_5 : decode cX11_addField 5 = .ok (.iload_n 2, 1) := by decide +kernel
theorem dX11_addField_6 : decode cX11_addField 6 = .ok (.ifCond .lt 8, 3) := by decide +kernel
theorem dX11_addField_9 : decode cX11_addField 9 = .ok (.iload_n 2, 1) := by decide +kernel
theorem dX11_addField_10 : decode cX11_addField 10 = .ok (.iconst 5, 1) := by decide +kernel
theorem dX11_addField_11 : decode cX11_addField 11 = .ok (.if_icmp .lt 13, 3) := by decide +kernel
theorem dX11_addField_14 : decode cX11_addField 14 = .ok (.new 70, 3) := by decide +kernel
theorem dX11_addField_17 : decode cX11_addField 17 = .ok (.dup, 1) := by decide +kernel
theorem dX11_addField_18 : decode cX11_addField 18 = .ok (.ldc 221, 2) := by decide +kernel
theorem dX11_addField_20 : decode cX11_addField 20 = .ok (.invokespecial 74, 3) := by decide +kernel
theorem dX11_addField_23 : decode cX11_addField 23 = .ok (.athrow, 1) := by decide +kernel
theorem dX11_addField_24 : decode cX11_addField 24 = .ok (.aload_n 0, 1) := by decide +kernel
theorem dX11_addField_25 : decode cX11_addField 25 = .ok (.getfield 42, 3) := by decide +kernel
theorem dX11_addField_28 : decode cX11_addField 28 = .ok (.iload_n 1, 1) := by decide +kernel
theorem dX11_addField_29 : decode cX11_addField 29 = .ok (.invokevirtual 223, 3) := by decide +kernel
theorem dX11_addField_32 : decode cX11_addField 32 = .ok (.invokevirtual 227, 3) := by decide +kernel
theorem dX11_addField_35 : decode cX11_addField 35 = .ok (.iconst 5, 1) := by decide +kernel
theorem dX11_addField_36 : decode cX11_addField 36 = .ok (.if_icmp .lt 13, 3) := by decide +kernel
theorem dX11_addField_39 : decode cX11_addField 39 = .ok (.new 81, 3) := by decide +kernel
theorem dX11_addField_42 : decode cX11_addField 42 = .ok (.dup, 1) := by decide +kernel
theorem dX11_addField_43 : decode cX11_addField 43 = .ok (.ldc 232, 2) := by decide +kernel
theorem dX11_addField_45 : decode cX11_addField 45 = .ok (.invokespecial 85, 3) := by decide +kernel
theorem dX11_addField_48 : decode cX11_addField 48 = .ok (.athrow, 1) := by decide +kernel
theorem dX11_addField_49 : decode cX11_addField 49 = .ok (.aload_n 0, 1) := by decide +kernel
theorem dX11_addField_50 : decode cX11_addField 50 = .ok (.getfield 42, 3) := by decide +kernel
theorem dX11_addField_53 : decode cX11_addField 53 = .ok (.iload_n 1, 1) := by decide +kernel
theorem dX11_addField_54 : decode cX11_addField 54 = .ok (.invokevirtual 223, 3) := by decide +kernel
theorem dX11_addField_57 : decode cX11_addField 57 = .ok (.iload_n 2, 1) := by decide +kernel
theorem dX11_addField_58 : decode cX11_addField 58 = .ok (.invokevirtual 234, 3) := by decide +kernel
theorem dX11_addField_61 : decode cX11_addField 61 = .ok (.ireturn, 1) := by decide +kernel
theorem dX11_setCondition_0 : decode cX11_setCondition 0 = .ok (.aload_n 0, 1) := by decide +kernel
theorem dX11_setCondition_1 : decode cX11_setCondition 1 = .ok (.iload_n 1, 1) := by decide +kernel
theorem dX11_setCondition_2 : decode cX11_setCondition 2 = .ok (.invokevirtual 218, 3) := by decide +kernel
theorem dX11_setCondition_5 : decode cX11_setCondition 5 = .ok (.iload_n 2, 1) := by decide +kernel
theorem dX11_setCondition_6 : decode cX11_setCondition 6 = .ok (.ifCond .lt 15, 3) := by decide +kernel
theorem dX11_setCondition_9 : decode cX11_setCondition 9 = .ok (.iload_n 2, 1) := by decide +kernel
theorem dX11_setCondition_10 : decode cX11_setCondition 10 = .ok (.iconst 5, 1) := by decide +kernel
theorem dX11_setCondition_11 : decode cX11_setCondition 11 = .ok (.if_icmp .ge 10, 3) := by decide +kernel
theorem dX11_setCondition_14 : decode cX11_setCondition 14 = .ok (.iload_n 3, 1) := by decide +kernel
theorem dX11_setCondition_15 : decode cX11_setCondition 15 = .ok (.invokestatic 118, 3) := by decide +kernel
theorem dX11_setCondition_18 : decode cX11_setCondition 18 = .ok (.ifCond .ne 13, 3) := by decide +kernel
theorem dX11_setCondition_21 : decode cX11_setCondition 21 = .ok (.new 70, 3) := by decide +kernel
theorem dX11_setCondition_24 : decode cX11_setCondition 24 = .ok (.dup, 1) := by decide +kernel
theorem dX11_setCondition_25 : decode cX11_setCondition 25 = .ok (.ldc 237, 2) := by decide +kernel
theorem dX11_setCondition_27 : decode cX11_setCondition 27 = .ok (.invokespecial 74, 3) := by decide +kernel
theorem dX11_setCondition_30 : decode cX11_setCondition 30 = .ok (.athrow, 1) := by decide +kernel
theorem dX11_setCondition_31 : decode cX11_setCondition 31 = .ok (.aload_n 0, 1) := by decide +kernel
theorem dX11_setCondition_32 : decode cX11_setCondition 32 = .ok (.getfield 42, 3) := by decide +kernel
theorem dX11_setCondition_35 : decode cX11_setCondition 35 = .ok (.iload_n 1, 1) := by decide +kernel
theorem dX11_setCondition_36 : decode cX11_setCondition 36 = .ok (.invokevirtual 223, 3) := by decide +kernel
theorem dX11_setCondition_39 : decode cX11_setCondition 39 = .ok (.iload_n 2, 1) := by decide +kernel
theorem dX11_setCondition_40 : decode cX11_setCondition 40 = .ok (.iload_n 3, 1) := by decide +kernel
theorem dX11_setCondition_41 : decode cX11_setCondition 41 = .ok (.invokevirtual 239, 3) := by decide +kernel
theorem dX11_setCondition_44 : decode cX11_setCondition 44 = .ok (.return_, 1) := by decide +kernel
theorem dX11_write_0 : decode cX11_write 0 = .ok (.aload_n 0, 1) := by decide +kernel
theorem dX11_write_1 : decode cX11_write 1 = .ok (.invokevirtual 164, 3) := by decide +kernel
theorem dX11_write_4 : decode cX11_write 4 = .ok (.aload_n 0, 1) := by decide +kernel
theorem dX11_write_5 : decode cX11_write 5 = .ok (.getfield 243, 3) := by decide +kernel
theorem dX11_write_8 : decode cX11_write 8 = .ok (.sipush 9999, 3) := by decide +kernel
theorem dX11_write_11 : decode cX11_write 11 = .ok (.if_icmp .lt 13, 3) := by decide +kernel
theorem dX11_write_14 : decode cX11_write 14 = .ok (.new 81, 3) := by decide +kernel
theorem dX11_write_17 : decode cX11_write 17 = .ok (.dup, 1) := by decide +kernel
theorem dX11_write_18 : decode cX11_write 18 = .ok (.ldc 246, 2) := by decide +kernel
theorem dX11_write_20 : decode cX11_write 20 = .ok (.invokespecial 85, 3) := by decide +kernel
theorem dX11_write_23 : decode cX11_write 23 = .ok (.athrow, 1) := by decide +kernel
theorem dX11_write_24 : decode cX11_write 24 = .ok (.aload_n 0, 1) := by decide +kernel
theorem dX11_write_25 : decode cX11_write 25 = .ok (.getfield 42, 3) := by decide +kernel
theorem dX11_write_28 : decode cX11_write 28 = .ok (.aload_n 0, 1) := by decide +kernel
theorem dX11_write_29 : decode cX11_write 29 = .ok (.getfield 49, 3) := by decide +kernel
theorem dX11_write_32 : decode cX11_write 32 = .ok (.aload_n 0, 1) := by decide +kernel
theorem dX11_write_33 : decode cX11_write 33 = .ok (.getfield 243, 3) := by decide +kernel
theorem dX11_write_36 : decode cX11_write 36 = .ok (.iconst 1, 1) := by decide +kernel
theorem dX11_write_37 : decode cX11_write 37 = .ok (.iadd, 1) := by decide +kernel
theorem dX11_write_38 : decode cX11_write 38 = .ok (.aload_n 0, 1) := by decide +kernel
theorem dX11_write_39 : decode cX11_write 39 = .ok (.getfield 59, 3) := by decide +kernel
theorem dX11_write_42 : decode cX11_write 42 = .ok (.invokevirtual 248, 3) := by decide +kernel
theorem dX11_write_45 : decode cX11_write 45 = .ok (.ifCond .ne 13, 3) := by decide +kernel
theorem dX11_write_48 : decode cX11_write 48 = .ok (.new 81, 3) := by decide +kernel
theorem dX11_write_51 : decode cX11_write 51 = .ok (.dup, 1) := by decide +kernel
theorem dX11_write_52 : decode cX11_write 52 = .ok (.ldc 252, 2) := by decide +kernel
theorem dX11_write_54 : decode cX11_write 54 = .ok (.invokespecial 85, 3) := by decide +kernel
theorem dX11_write_57 : decode cX11_write 57 = .ok (.athrow, 1) := by decide +kernel
theorem dX11_write_58 : decode cX11_write 58 = .ok (.aload_n 0, 1) := by decide +kernel
theorem dX11_write_59 : decode cX11_write 59 = .ok (.dup, 1) := by decide +kernel
theorem dX11_write_60 : decode cX11_write 60 = .ok (.getfield 243, 3) := by decide +kernel
theorem dX11_write_63 : decode cX11_write 63 = .ok (.iconst 1, 1) := by decide +kernel
theorem dX11_write_64 : decode cX11_write 64 = .ok (.iadd, 1) := by decide +kernel
theorem dX11_write_65 : decode cX11_write 65 = .ok (.putfield 243, 3) := by decide +kernel
theorem dX11_write_68 : decode cX11_write 68 = .ok (.aload_n 0, 1) := by decide +kernel
theorem dX11_write_69 : decode cX11_write 69 = .ok (.getfield 56, 3) := by decide +kernel
theorem dX11_write_72 : decode cX11_write 72 = .ok (.astore_n 1, 1) := by decide +kernel
theorem dX11_write_73 : decode cX11_write 73 = .ok (.aload_n 0, 1) := by decide +kernel
theorem dX11_write_74 : decode cX11_write 74 = .ok (.aload_n 0, 1) := by decide +kernel
theorem dX11_write_75 : decode cX11_write 75 = .ok (.getfield 59, 3) := by decide +kernel
theorem dX11_write_78 : decode cX11_write 78 = .ok (.putfield 56, 3) := by decide +kernel
theorem dX11_write_81 : decode cX11_write 81 = .ok (.aload_n 0, 1) := by decide +kernel
theorem dX11_write_82 : decode cX11_write 82 = .ok (.aload_n 1, 1) := by decide +kernel
theorem dX11_write_83 : decode cX11_write 83 = .ok (.putfield 59, 3) := by decide +kernel
theorem dX11_write_86 : decode cX11_write 86 = .ok (.aload_n 0, 1) := by decide +kernel
theorem dX11_write_87 : decode cX11_write 87 = .ok (.getfield 56, 3) := by decide +kernel
theorem dX11_write_90 : decode cX11_write 90 = .ok (.invokevirtual 123, 3) := by decide +kernel
theorem dX11_write_93 : decode cX11_write 93 = .ok (.ireturn, 1) := by decide +kernel
theorem dX11_written_0 : decode cX11_written 0 = .ok (.aload_n 0, 1) := by decide +kernel
theorem dX11_written_1 : decode cX11_written 1 = .ok (.getfield 56, 3) := by decide +kernel
theorem dX11_written_4 : decode cX11_written 4 = .ok (.invokevirtual 123, 3) := by decide +kernel
theorem dX11_written_7 : decode cX11_written 7 = .ok (.ireturn, 1) := by decide +kernel
theorem dX11_letter_0 : decode cX11_letter 0 = .ok (.iload_n 1, 1) := by decide +kernel
theorem dX11_letter_1 : decode cX11_letter 1 = .ok (.ifCond .lt 14, 3) := by decide +kernel
theorem dX11_letter_4 : decode cX11_letter 4 = .ok (.iload_n 1, 1) := by decide +kernel
theorem dX11_letter_5 : decode cX11_letter 5 = .ok (.aload_n 0, 1) := by decide +kernel
theorem dX11_letter_6 : decode cX11_letter 6 = .ok (.getfield 56, 3) := by decide +kernel
theorem dX11_letter_9 : decode cX11_letter 9 = .ok (.invokevirtual 123, 3) := by decide +kernel
theorem dX11_letter_12 : decode cX11_letter 12 = .ok (.if_icmp .lt 13, 3) := by decide +kernel
theorem dX11_letter_15 : decode cX11_letter 15 = .ok (.new 192, 3) := by decide +kernel
theorem dX11_letter_18 : decode cX11_letter 18 = .ok (.dup, 1) := by decide +kernel
theorem dX11_letter_19 : decode cX11_letter 19 = .ok (.ldc 194, 2) := by decide +kernel
theorem dX11_letter_21 : decode cX11_letter 21 = .ok (.invokespecial 196, 3) := by decide +kernel
theorem dX11_letter_24 : decode cX11_letter 24 = .ok (.athrow, 1) := by decide +kernel
theorem dX11_letter_25 : decode cX11_letter 25 = .ok (.aload_n 0, 1) := by decide +kernel
theorem dX11_letter_26 : decode cX11_letter 26 = .ok (.getfield 56, 3) := by decide +kernel
theorem dX11_letter_29 : decode cX11_letter 29 = .ok (.iload_n 1, 1) := by decide +kernel
theorem dX11_letter_30 : decode cX11_letter 30 = .ok (.invokevirtual 254, 3) := by decide +kernel
theorem dX11_letter_33 : decode cX11_letter 33 = .ok (.ireturn, 1) := by decide +kernel
theorem dX11_feedWritten_0 : decode cX11_feedWritten 0 = .ok (.aload_n 0, 1) := by decide +kernel
theorem dX11_feedWritten_1 : decode cX11_feedWritten 1 = .ok (.getfield 19, 3) := by decide +kernel
theorem dX11_feedWritten_4 : decode cX11_feedWritten 4 = .ok (.invokevirtual 123, 3) := by decide +kernel
theorem dX11_feedWritten_7 : decode cX11_feedWritten 7 = .ok (.aload_n 0, 1) := by decide +kernel
theorem dX11_feedWritten_8 : decode cX11_feedWritten 8 = .ok (.getfield 56, 3) := by decide +kernel
theorem dX11_feedWritten_11 : decode cX11_feedWritten 11 = .ok (.invokevirtual 123, 3) := by decide +kernel
theorem dX11_feedWritten_14 : decode cX11_feedWritten 14 = .ok (.iadd, 1) := by decide +kernel
theorem dX11_feedWritten_15 : decode cX11_feedWritten 15 = .ok (.sipush 300, 3) := by decide +kernel
theorem dX11_feedWritten_18 : decode cX11_feedWritten 18 = .ok (.if_icmp .le 14, 3) := by decide +kernel
theorem dX11_feedWritten_21 : decode cX11_feedWritten 21 = .ok (.new 81, 3) := by decide +kernel
theorem dX11_feedWritten_24 : decode cX11_feedWritten 24 = .ok (.dup, 1) := by decide +kernel
theorem dX11_feedWritten_25 : decode cX11_feedWritten 25 = .ok (.ldc_w 257, 3) := by decide +kernel
theorem dX11_feedWritten_28 : decode cX11_feedWritten 28 = .ok (.invokespecial 85, 3) := by decide +kernel
theorem dX11_feedWritten_31 : decode cX11_feedWritten 31 = .ok (.athrow, 1) := by decide +kernel
theorem dX11_feedWritten_32 : decode cX11_feedWritten 32 = .ok (.aload_n 0, 1) := by decide +kernel
theorem dX11_feedWritten_33 : decode cX11_feedWritten 33 = .ok (.getfield 19, 3) := by decide +kernel
theorem dX11_feedWritten_36 : decode cX11_feedWritten 36 = .ok (.aload_n 0, 1) := by decide +kernel
theorem dX11_feedWritten_37 : decode cX11_feedWritten 37 = .ok (.getfield 56, 3) := by decide +kernel
theorem dX11_feedWritten_40 : decode cX11_feedWritten 40 = .ok (.invokevirtual 259, 3) := by decide +kernel
theorem dX11_feedWritten_43 : decode cX11_feedWritten 43 = .ok (.aload_n 0, 1) := by decide +kernel
theorem dX11_feedWritten_44 : decode cX11_feedWritten 44 = .ok (.getfield 19, 3) := by decide +kernel
theorem dX11_feedWritten_47 : decode cX11_feedWritten 47 = .ok (.invokevirtual 123, 3) := by decide +kernel
theorem dX11_feedWritten_50 : decode cX11_feedWritten 50 = .ok (.ireturn, 1) := by decide +kernel
theorem dX11_acceptDraft_0 : decode cX11_acceptDraft 0 = .ok (.aload_n 0, 1) := by decide +kernel
theorem dX11_acceptDraft_1 : decode cX11_acceptDraft 1 = .ok (.getfield 49, 3) := by decide +kernel
theorem dX11_acceptDraft_4 : decode cX11_acceptDraft 4 = .ok (.astore_n 1, 1) := by decide +kernel
theorem dX11_acceptDraft_5 : decode cX11_acceptDraft 5 = .ok (.aload_n 0, 1) := by decide +kernel
theorem dX11_acceptDraft_6 : decode cX11_acceptDraft 6 = .ok (.aload_n 0, 1) := by decide +kernel
theorem dX11_acceptDraft_7 : decode cX11_acceptDraft 7 = .ok (.getfield 53, 3) := by decide +kernel
theorem dX11_acceptDraft_10 : decode cX11_acceptDraft 10 = .ok (.putfield 49, 3) := by decide +kernel
theorem dX11_acceptDraft_13 : decode cX11_acceptDraft 13 = .ok (.aload_n 0, 1) := by decide +kernel
theorem dX11_acceptDraft_14 : decode cX11_acceptDraft 14 = .ok (.aload_n 1, 1) := by decide +kernel
theorem dX11_acceptDraft_15 : decode cX11_acceptDraft 15 = .ok (.putfield 53, 3) := by decide +kernel
theorem dX11_acceptDraft_18 : decode cX11_acceptDraft 18 = .ok (.aload_n 0, 1) := by decide +kernel
theorem dX11_acceptDraft_19 : decode cX11_acceptDraft 19 = .ok (.iconst 1, 1) := by decide +kernel
theorem dX11_acceptDraft_20 : decode cX11_acceptDraft 20 = .ok (.putfield 114, 3) := by decide +kernel
theorem dX11_acceptDraft_23 : decode cX11_acceptDraft 23 = .ok (.aload_n 0, 1) := by decide +kernel
theorem dX11_acceptDraft_24 : decode cX11_acceptDraft 24 = .ok (.iconst 1, 1) := by decide +kernel
theorem dX11_acceptDraft_25 : decode cX11_acceptDraft 25 = .ok (.putfield 133, 3) := by decide +kernel
theorem dX11_acceptDraft_28 : decode cX11_acceptDraft 28 = .ok (.aload_n 0, 1) := by decide +kernel
theorem dX11_acceptDraft_29 : decode cX11_acceptDraft 29 = .ok (.aload_n 0, 1) := by decide +kernel
theorem dX11_acceptDraft_30 : decode cX11_acceptDraft 30 = .ok (.getfield 49, 3) := by decide +kernel
theorem dX11_acceptDraft_33 : decode cX11_acceptDraft 33 = .ok (.invokevirtual 263, 3) := by decide +kernel
theorem dX11_acceptDraft_36 : decode cX11_acceptDraft 36 = .ok (.putfield 136, 3) := by decide +kernel
theorem dX11_acceptDraft_39 : decode cX11_acceptDraft 39 = .ok (.return_, 1) := by decide +kernel
theorem dX11_needFault_0 : decode cX11_needFault 0 = .ok (.iload_n 1, 1) := by decide +kernel
theorem dX11_needFault_1 : decode cX11_needFault 1 = .ok (.ifCond .lt 14, 3) := by decide +kernel
theorem dX11_needFault_4 : decode cX11_needFault 4 = .ok (.iload_n 1, 1) := by decide +kernel
theorem dX11_needFault_5 : decode cX11_needFault 5 = .ok (.aload_n 0, 1) := by decide +kernel
theorem dX11_needFault_6 : decode cX11_needFault 6 = .ok (.getfield 26, 3) := by decide +kernel
theorem dX11_needFault_9 : decode cX11_needFault 9 = .ok (.invokevirtual 147, 3) := by decide +kernel
theorem dX11_needFault_12 : decode cX11_needFault 12 = .ok (.if_icmp .lt 14, 3) := by decide +kernel
theorem dX11_needFault_15 : decode cX11_needFault 15 = .ok (.new 192, 3) := by decide +kernel
theorem dX11_needFault_18 : decode cX11_needFault 18 = .ok (.dup, 1) := by decide +kernel
theorem dX11_needFault_19 : decode cX11_needFault 19 = .ok (.ldc_w 266, 3) := by decide +kernel
theorem dX11_needFault_22 : decode cX11_needFault 22 = .ok (.invokespecial 196, 3) := by decide +kernel
theorem dX11_needFault_25 : decode cX11_needFault 25 = .ok (.athrow, 1) := by decide +kernel
theorem dX11_needFault_26 : decode cX11_needFault 26 = .ok (.return_, 1) := by decide +kernel
theorem dX11_needMessage_0 : decode cX11_needMessage 0 = .ok (.aload_n 0, 1) := by decide +kernel
theorem dX11_needMessage_1 : decode cX11_needMessage 1 = .ok (.getfield 114, 3) := by decide +kernel
theorem dX11_needMessage_4 : decode cX11_needMessage 4 = .ok (.ifCond .ne 14, 3) := by decide +kernel
theorem dX11_needMessage_7 : decode cX11_needMessage 7 = .ok (.new 81, 3) := by decide +kernel
theorem dX11_needMessage_10 : decode cX11_needMessage 10 = .ok (.dup, 1) := by decide +kernel
theorem dX11_needMessage_11 : decode cX11_needMessage 11 = .ok (.ldc_w 268, 3) := by decide +kernel
theorem dX11_needMessage_14 : decode cX11_needMessage 14 = .ok (.invokespecial 85, 3) := by decide +kernel
theorem dX11_needMessage_17 : decode cX11_needMessage 17 = .ok (.athrow, 1) := by decide +kernel
theorem dX11_needMessage_18 : decode cX11_needMessage 18 = .ok (.return_, 1) := by decide +kernel
theorem dX11_needSegment_0 : decode cX11_needSegment 0 = .ok (.aload_n 0, 1) := by decide +kernel
theorem dX11_needSegment_1 : decode cX11_needSegment 1 = .ok (.invokevirtual 164, 3) := by decide +kernel
theorem dX11_needSegment_4 : decode cX11_needSegment 4 = .ok (.iload_n 1, 1) := by decide +kernel
theorem dX11_needSegment_5 : decode cX11_needSegment 5 = .ok (.ifCond .lt 14, 3) := by decide +kernel
theorem dX11_needSegment_8 : decode cX11_needSegment 8 = .ok (.iload_n 1, 1) := by decide +kernel
theorem dX11_needSegment_9 : decode cX11_needSegment 9 = .ok (.aload_n 0, 1) := by decide +kernel
theorem dX11_needSegment_10 : decode cX11_needSegment 10 = .ok (.getfield 49, 3) := by decide +kernel
theorem dX11_needSegment_13 : decode cX11_needSegment 13 = .ok (.invokevirtual 167, 3) := by decide +kernel
theorem dX11_needSegment_16 : decode cX11_needSegment 16 = .ok (.if_icmp .lt 14, 3) := by decide +kernel
theorem dX11_needSegment_19 : decode cX11_needSegment 19 = .ok (.new 192, 3) := by decide +kernel
theorem dX11_needSegment_22 : decode cX11_needSegment 22 = .ok (.dup, 1) := by decide +kernel
theorem dX11_needSegment_23 : decode cX11_needSegment 23 = .ok (.ldc_w 270, 3) := by decide +kernel
theorem dX11_needSegment_26 : decode cX11_needSegment 26 = .ok (.invokespecial 196, 3) := by decide +kernel
theorem dX11_needSegment_29 : decode cX11_needSegment 29 = .ok (.athrow, 1) := by decide +kernel
theorem dX11_needSegment_30 : decode cX11_needSegment 30 = .ok (.return_, 1) := by decide +kernel
theorem dX11_needElement_0 : decode cX11_needElement 0 = .ok (.aload_n 0, 1) := by decide +kernel
theorem dX11_needElement_1 : decode cX11_needElement 1 = .ok (.iload_n 1, 1) := by decide +kernel
theorem dX11_needElement_2 : decode cX11_needElement 2 = .ok (.invokevirtual 170, 3) := by decide +kernel
theorem dX11_needElement_5 : decode cX11_needElement 5 = .ok (.iload_n 2, 1) := by decide +kernel
theorem dX11_needElement_6 : decode cX11_needElement 6 = .ok (.ifCond .lt 18, 3) := by decide +kernel
theorem dX11_needElement_9 : decode cX11_needElement 9 = .ok (.iload_n 2, 1) := by decide +kernel
theorem dX11_needElement_10 : decode cX11_needElement 10 = .ok (.aload_n 0, 1) := by decide +kernel
theorem dX11_needElement_11 : decode cX11_needElement 11 = .ok (.getfield 49, 3) := by decide +kernel
theorem dX11_needElement_14 : decode cX11_needElement 14 = .ok (.iload_n 1, 1) := by decide +kernel
theorem dX11_needElement_15 : decode cX11_needElement 15 = .ok (.invokevirtual 173, 3) := by decide +kernel
theorem dX11_needElement_18 : decode cX11_needElement 18 = .ok (.invokevirtual 183, 3) := by decide +kernel
theorem dX11_needElement_21 : decode cX11_needElement 21 = .ok (.if_icmp .lt 14, 3) := by decide +kernel
theorem dX11_needElement_24 : decode cX11_needElement 24 = .ok (.new 192, 3) := by decide +kernel
theorem dX11_needElement_27 : decode cX11_needElement 27 = .ok (.dup, 1) := by decide +kernel
theorem dX11_needElement_28 : decode cX11_needElement 28 = .ok (.ldc_w 272, 3) := by decide +kernel
theorem dX11_needElement_31 : decode cX11_needElement 31 = .ok (.invokespecial 196, 3) := by decide +kernel
theorem dX11_needElement_34 : decode cX11_needElement 34 = .ok (.athrow, 1) := by decide +kernel
theorem dX11_needElement_35 : decode cX11_needElement 35 = .ok (.return_, 1) := by decide +kernel
theorem dX11_needRule_0 : decode cX11_needRule 0 = .ok (.iload_n 1, 1) := by decide +kernel
theorem dX11_needRule_1 : decode cX11_needRule 1 = .ok (.ifCond .lt 14, 3) := by decide +kernel
theorem dX11_needRule_4 : decode cX11_needRule 4 = .ok (.iload_n 1, 1) := by decide +kernel
theorem dX11_needRule_5 : decode cX11_needRule 5 = .ok (.aload_n 0, 1) := by decide +kernel
theorem dX11_needRule_6 : decode cX11_needRule 6 = .ok (.getfield 42, 3) := by decide +kernel
theorem dX11_needRule_9 : decode cX11_needRule 9 = .ok (.invokevirtual 211, 3) := by decide +kernel
theorem dX11_needRule_12 : decode cX11_needRule 12 = .ok (.if_icmp .lt 14, 3) := by decide +kernel
theorem dX11_needRule_15 : decode cX11_needRule 15 = .ok (.new 192, 3) := by decide +kernel
theorem dX11_needRule_18 : decode cX11_needRule 18 = .ok (.dup, 1) := by decide +kernel
theorem dX11_needRule_19 : decode cX11_needRule 19 = .ok (.ldc_w 274, 3) := by decide +kernel
theorem dX11_needRule_22 : decode cX11_needRule 22 = .ok (.invokespecial 196, 3) := by decide +kernel
theorem dX11_needRule_25 : decode cX11_needRule 25 = .ok (.athrow, 1) := by decide +kernel
theorem dX11_needRule_26 : decode cX11_needRule 26 = .ok (.return_, 1) := by decide +kernel
theorem dX11_isLetter_0 : decode cX11_isLetter 0 = .ok (.iload_n 0, 1) := by decide +kernel
theorem dX11_isLetter_1 : decode cX11_isLetter 1 = .ok (.bipush 32, 2) := by decide +kernel
theorem dX11_isLetter_3 : decode cX11_isLetter 3 = .ok (.if_icmp .lt 13, 3) := by decide +kernel
theorem dX11_isLetter_6 : decode cX11_isLetter 6 = .ok (.iload_n 0, 1) := by decide +kernel
theorem dX11_isLetter_7 : decode cX11_isLetter 7 = .ok (.bipush 126, 2) := by decide +kernel
theorem dX11_isLetter_9 : decode cX11_isLetter 9 = .ok (.if_icmp .gt 7, 3) := by decide +kernel
theorem dX11_isLetter_12 : decode cX11_isLetter 12 = .ok (.iconst 1, 1) := by decide +kernel
theorem dX11_isLetter_13 : decode cX11_isLetter 13 = .ok (.goto 4, 3) := by decide +kernel
theorem dX11_isLetter_16 : decode cX11_isLetter 16 = .ok (.iconst 0, 1) := by decide +kernel
theorem dX11_isLetter_17 : decode cX11_isLetter 17 = .ok (.ireturn, 1) := by decide +kernel
theorem dX11_isTag_0 : decode cX11_isTag 0 = .ok (.iload_n 0, 1) := by decide +kernel
theorem dX11_isTag_1 : decode cX11_isTag 1 = .ok (.bipush 65, 2) := by decide +kernel
theorem dX11_isTag_3 : decode cX11_isTag 3 = .ok (.if_icmp .lt 13, 3) := by decide +kernel
theorem dX11_isTag_6 : decode cX11_isTag 6 = .ok (.iload_n 0, 1) := by decide +kernel
theorem dX11_isTag_7 : decode cX11_isTag 7 = .ok (.bipush 90, 2) := by decide +kernel
theorem dX11_isTag_9 : decode cX11_isTag 9 = .ok (.if_icmp .gt 7, 3) := by decide +kernel
theorem dX11_isTag_12 : decode cX11_isTag 12 = .ok (.iconst 1, 1) := by decide +kernel
theorem dX11_isTag_13 : decode cX11_isTag 13 = .ok (.goto 4, 3) := by decide +kernel
theorem dX11_isTag_16 : decode cX11_isTag 16 = .ok (.iconst 0, 1) := by decide +kernel
theorem dX11_isTag_17 : decode cX11_isTag 17 = .ok (.ireturn, 1) := by decide +kernel
theorem dX11_isBodyTag_0 : decode cX11_isBodyTag 0 = .ok (.iload_n 0, 1) := by decide +kernel
theorem dX11_isBodyTag_1 : decode cX11_isBodyTag 1 = .ok (.invokestatic 276, 3) := by decide +kernel
theorem dX11_isBodyTag_4 : decode cX11_isBodyTag 4 = .ok (.ifCond .eq 19, 3) := by decide +kernel
theorem dX11_isBodyTag_7 : decode cX11_isBodyTag 7 = .ok (.iload_n 0, 1) := by decide +kernel
theorem dX11_isBodyTag_8 : decode cX11_isBodyTag 8 = .ok (.bipush 72, 2) := by decide +kernel
theorem dX11_isBodyTag_10 : decode cX11_isBodyTag 10 = .ok (.if_icmp .eq 13, 3) := by decide +kernel
theorem dX11_isBodyTag_13 : decode cX11_isBodyTag 13 = .ok (.iload_n 0, 1) := by decide +kernel
theorem dX11_isBodyTag_14 : decode cX11_isBodyTag 14 = .ok (.bipush 84, 2) := by decide +kernel
theorem dX11_isBodyTag_16 : decode cX11_isBodyTag 16 = .ok (.if_icmp .eq 7, 3) := by decide +kernel
theorem dX11_isBodyTag_19 : decode cX11_isBodyTag 19 = .ok (.iconst 1, 1) := by decide +kernel
theorem dX11_isBodyTag_20 : decode cX11_isBodyTag 20 = .ok (.goto 4, 3) := by decide +kernel
theorem dX11_isBodyTag_23 : decode cX11_isBodyTag 23 = .ok (.iconst 0, 1) := by decide +kernel
theorem dX11_isBodyTag_24 : decode cX11_isBodyTag 24 = .ok (.ireturn, 1) := by decide +kernel
theorem dX11_areTimes_0 : decode cX11_areTimes 0 = .ok (.iload_n 0, 1) := by decide +kernel
theorem dX11_areTimes_1 : decode cX11_areTimes 1 = .ok (.ifCond .lt 29, 3) := by decide +kernel
theorem dX11_areTimes_4 : decode cX11_areTimes 4 = .ok (.iload_n 0, 1) := by decide +kernel
theorem dX11_areTimes_5 : decode cX11_areTimes 5 = .ok (.bipush 9, 2) := by decide +kernel
theorem dX11_areTimes_7 : decode cX11_areTimes 7 = .ok (.if_icmp .gt 23, 3) := by decide +kernel
theorem dX11_areTimes_10 : decode cX11_areTimes 10 = .ok (.iload_n 1, 1) := by decide +kernel
theorem dX11_areTimes_11 : decode cX11_areTimes 11 = .ok (.iconst 1, 1) := by decide +kernel
theorem dX11_areTimes_12 : decode cX11_areTimes 12 = .ok (.if_icmp .lt 18, 3) := by decide +kernel
theorem dX11_areTimes_15 : decode cX11_areTimes 15 = .ok (.iload_n 1, 1) := by decide +kernel
theorem dX11_areTimes_16 : decode cX11_areTimes 16 = .ok (.bipush 9, 2) := by decide +kernel
theorem dX11_areTimes_18 : decode cX11_areTimes 18 = .ok (.if_icmp .gt 12, 3) := by decide +kernel
theorem dX11_areTimes_21 : decode cX11_areTimes 21 = .ok (.iload_n 0, 1) := by decide +kernel
theorem dX11_areTimes_22 : decode cX11_areTimes 22 = .ok (.iload_n 1, 1) := by decide +kernel
theorem dX11_areTimes_23 : decode cX11_areTimes 23 = .ok (.if_icmp .gt 7, 3) := by decide +kernel
theorem dX11_areTimes_26 : decode cX11_areTimes 26 = .ok (.iconst 1, 1) := by decide +kernel
theorem dX11_areTimes_27 : decode cX11_areTimes 27 = .ok (.goto 4, 3) := by decide +kernel
theorem dX11_areTimes_30 : decode cX11_areTimes 30 = .ok (.iconst 0, 1) := by decide +kernel
theorem dX11_areTimes_31 : decode cX11_areTimes 31 = .ok (.ireturn, 1) := by decide +kernel
theorem dL_addItem_0 : decode cL_addItem 0 = .ok (.aload 4, 2) := by decide +kernel
theorem dL_addItem_2 : decode cL_addItem 2 = .ok (.iconst 0, 1) := by decide +kernel
theorem dL_addItem_3 : decode cL_addItem 3 = .ok (.aload_n 0, 1) := by decide +kernel
theorem dL_addItem_4 : decode cL_addItem 4 = .ok (.iload_n 1, 1) := by decide +kernel
theorem dL_addItem_5 : decode cL_addItem 5 = .ok (.iload_n 2, 1) := by decide +kernel
theorem dL_addItem_6 : decode cL_addItem 6 = .ok (.iload_n 3, 1) := by decide +kernel
theorem dL_addItem_7 : decode cL_addItem 7 = .ok (.invokevirtual 7, 3) := by decide +kernel
theorem dL_addItem_10 : decode cL_addItem 10 = .ok (.i2l, 1) := by decide +kernel
theorem dL_addItem_11 : decode cL_addItem 11 = .ok (.lastore, 1) := by decide +kernel
theorem dL_addItem_12 : decode cL_addItem 12 = .ok (.goto 11, 3) := by decide +kernel
theorem dL_addItem_15 : decode cL_addItem 15 = .ok (.astore 5, 2) := by decide +kernel
theorem dL_addItem_17 : decode cL_addItem 17 = .ok (.iconst 1, 1) := by decide +kernel
theorem dL_addItem_18 : decode cL_addItem 18 = .ok (.ireturn, 1) := by decide +kernel
theorem dL_addItem_19 : decode cL_addItem 19 = .ok (.astore 5, 2) := by decide +kernel
theorem dL_addItem_21 : decode cL_addItem 21 = .ok (.iconst 2, 1) := by decide +kernel
theorem dL_addItem_22 : decode cL_addItem 22 = .ok (.ireturn, 1) := by decide +kernel
theorem dL_addItem_23 : decode cL_addItem 23 = .ok (.iconst 0, 1) := by decide +kernel
theorem dL_addItem_24 : decode cL_addItem 24 = .ok (.ireturn, 1) := by decide +kernel
theorem dL_openLoop_0 : decode cL_openLoop 0 = .ok (.aload_n 0, 1) := by decide +kernel
theorem dL_openLoop_1 : decode cL_openLoop 1 = .ok (.iload_n 1, 1) := by decide +kernel
theorem dL_openLoop_2 : decode cL_openLoop 2 = .ok (.iload_n 2, 1) := by decide +kernel
theorem dL_openLoop_3 : decode cL_openLoop 3 = .ok (.invokevirtual 17, 3) := by decide +kernel
theorem dL_openLoop_6 : decode cL_openLoop 6 = .ok (.goto 9, 3) := by decide +kernel
theorem dL_openLoop_9 : decode cL_openLoop 9 = .ok (.astore_n 3, 1) := by decide +kernel
theorem dL_openLoop_10 : decode cL_openLoop 10 = .ok (.iconst 1, 1) := by decide +kernel
theorem dL_openLoop_11 : decode cL_openLoop 11 = .ok (.ireturn, 1) := by decide +kernel
theorem dL_openLoop_12 : decode cL_openLoop 12 = .ok (.astore_n 3, 1) := by decide +kernel
theorem dL_openLoop_13 : decode cL_openLoop 13 = .ok (.iconst 2, 1) := by decide +kernel
theorem dL_openLoop_14 : decode cL_openLoop 14 = .ok (.ireturn, 1) := by decide +kernel
theorem dL_openLoop_15 : decode cL_openLoop 15 = .ok (.iconst 0, 1) := by decide +kernel
theorem dL_openLoop_16 : decode cL_openLoop 16 = .ok (.ireturn, 1) := by decide +kernel
theorem dL_closeLoop_0 : decode cL_closeLoop 0 = .ok (.aload_n 1, 1) := by decide +kernel
theorem dL_closeLoop_1 : decode cL_closeLoop 1 = .ok (.iconst 0, 1) := by decide +kernel
theorem dL_closeLoop_2 : decode cL_closeLoop 2 = .ok (.aload_n 0, 1) := by decide +kernel
theorem dL_closeLoop_3 : decode cL_closeLoop 3 = .ok (.invokevirtual 21, 3) := by decide +kernel
theorem dL_closeLoop_6 : decode cL_closeLoop 6 = .ok (.i2l, 1) := by decide +kernel
theorem dL_closeLoop_7 : decode cL_closeLoop 7 = .ok (.lastore, 1) := by decide +kernel
theorem dL_closeLoop_8 : decode cL_closeLoop 8 = .ok (.goto 6, 3) := by decide +kernel
theorem dL_closeLoop_11 : decode cL_closeLoop 11 = .ok (.astore_n 2, 1) := by decide +kernel
theorem dL_closeLoop_12 : decode cL_closeLoop 12 = .ok (.iconst 1, 1) := by decide +kernel
theorem dL_closeLoop_13 : decode cL_closeLoop 13 = .ok (.ireturn, 1) := by decide +kernel
theorem dL_closeLoop_14 : decode cL_closeLoop 14 = .ok (.iconst 0, 1) := by decide +kernel
theorem dL_closeLoop_15 : decode cL_closeLoop 15 = .ok (.ireturn, 1) := by decide +kernel
theorem dL_feed_0 : decode cL_feed 0 = .ok (.aload_n 2, 1) := by decide +kernel
theorem dL_feed_1 : decode cL_feed 1 = .ok (.iconst 0, 1) := by decide +kernel
theorem dL_feed_2 : decode cL_feed 2 = .ok (.aload_n 0, 1) := by decide +kernel
theorem dL_feed_3 : decode cL_feed 3 = .ok (.iload_n 1, 1) := by decide +kernel
theorem dL_feed_4 : decode cL_feed 4 = .ok (.invokevirtual 25, 3) := by decide +kernel
theorem dL_feed_7 : decode cL_feed 7 = .ok (.i2l, 1) := by decide +kernel
theorem dL_feed_8 : decode cL_feed 8 = .ok (.lastore, 1) := by decide +kernel
theorem dL_feed_9 : decode cL_feed 9 = .ok (.goto 9, 3) := by decide +kernel
theorem dL_feed_12 : decode cL_feed 12 = .ok (.astore_n 3, 1) := by decide +kernel
theorem dL_feed_13 : decode cL_feed 13 = .ok (.iconst 1, 1) := by decide +kernel
theorem dL_feed_14 : decode cL_feed 14 = .ok (.ireturn, 1) := by decide +kernel
theorem dL_feed_15 : decode cL_feed 15 = .ok (.astore_n 3, 1) := by decide +kernel
theorem dL_feed_16 : decode cL_feed 16 = .ok (.iconst 2, 1) := by decide +kernel
theorem dL_feed_17 : decode cL_feed 17 = .ok (.ireturn, 1) := by decide +kernel
theorem dL_feed_18 : decode cL_feed 18 = .ok (.iconst 0, 1) := by decide +kernel
theorem dL_feed_19 : decode cL_feed 19 = .ok (.ireturn, 1) := by decide +kernel
theorem dL_read_0 : decode cL_read 0 = .ok (.aload_n 1, 1) := by decide +kernel
theorem dL_read_1 : decode cL_read 1 = .ok (.iconst 0, 1) := by decide +kernel
theorem dL_read_2 : decode cL_read 2 = .ok (.aload_n 0, 1) := by decide +kernel
theorem dL_read_3 : decode cL_read 3 = .ok (.invokevirtual 29, 3) := by decide +kernel
theorem dL_read_6 : decode cL_read 6 = .ok (.i2l, 1) := by decide +kernel
theorem dL_read_7 : decode cL_read 7 = .ok (.lastore, 1) := by decide +kernel
theorem dL_read_8 : decode cL_read 8 = .ok (.goto 6, 3) := by decide +kernel
theorem dL_read_11 : decode cL_read 11 = .ok (.astore_n 2, 1) := by decide +kernel
theorem dL_read_12 : decode cL_read 12 = .ok (.iconst 1, 1) := by decide +kernel
theorem dL_read_13 : decode cL_read 13 = .ok (.ireturn, 1) := by decide +kernel
theorem dL_read_14 : decode cL_read 14 = .ok (.iconst 0, 1) := by decide +kernel
theorem dL_read_15 : decode cL_read 15 = .ok (.ireturn, 1) := by decide +kernel
theorem dL_faultKind_0 : decode cL_faultKind 0 = .ok (.aload_n 2, 1) := by decide +kernel
theorem dL_faultKind_1 : decode cL_faultKind 1 = .ok (.iconst 0, 1) := by decide +kernel
theorem dL_faultKind_2 : decode cL_faultKind 2 = .ok (.aload_n 0, 1) := by decide +kernel
theorem dL_faultKind_3 : decode cL_faultKind 3 = .ok (.iload_n 1, 1) := by decide +kernel
theorem dL_faultKind_4 : decode cL_faultKind 4 = .ok (.invokevirtual 32, 3) := by decide +kernel
theorem dL_faultKind_7 : decode cL_faultKind 7 = .ok (.i2l, 1) := by decide +kernel
theorem dL_faultKind_8 : decode cL_faultKind 8 = .ok (.lastore, 1) := by decide +kernel
theorem dL_faultKind_9 : decode cL_faultKind 9 = .ok (.goto 6, 3) := by decide +kernel
theorem dL_faultKind_12 : decode cL_faultKind 12 = .ok (.astore_n 3, 1) := by decide +kernel
theorem dL_faultKind_13 : decode cL_faultKind 13 = .ok (.iconst 1, 1) := by decide +kernel
theorem dL_faultKind_14 : decode cL_faultKind 14 = .ok (.ireturn, 1) := by decide +kernel
theorem dL_faultKind_15 : decode cL_faultKind 15 = .ok (.iconst 0, 1) := by decide +kernel
theorem dL_faultKind_16 : decode cL_faultKind 16 = .ok (.ireturn, 1) := by decide +kernel
theorem dL_faultPlace_0 : decode cL_faultPlace 0 = .ok (.aload_n 2, 1) := by decide +kernel
theorem dL_faultPlace_1 : decode cL_faultPlace 1 = .ok (.iconst 0, 1) := by decide +kernel
theorem dL_faultPlace_2 : decode cL_faultPlace 2 = .ok (.aload_n 0, 1) := by decide +kernel
theorem dL_faultPlace_3 : decode cL_faultPlace 3 = .ok (.iload_n 1, 1) := by decide +kernel
theorem dL_faultPlace_4 : decode cL_faultPlace 4 = .ok (.invokevirtual 38, 3) := by decide +kernel
theorem dL_faultPlace_7 : decode cL_faultPlace 7 = .ok (.i2l, 1) := by decide +kernel
theorem dL_faultPlace_8 : decode cL_faultPlace 8 = .ok (.lastore, 1) := by decide +kernel
theorem dL_faultPlace_9 : decode cL_faultPlace 9 = .ok (.goto 6, 3) := by decide +kernel
theorem dL_faultPlace_12 : decode cL_faultPlace 12 = .ok (.astore_n 3, 1) := by decide +kernel
theorem dL_faultPlace_13 : decode cL_faultPlace 13 = .ok (.iconst 1, 1) := by decide +kernel
theorem dL_faultPlace_14 : decode cL_faultPlace 14 = .ok (.ireturn, 1) := by decide +kernel
theorem dL_faultPlace_15 : decode cL_faultPlace 15 = .ok (.iconst 0, 1) := by decide +kernel
theorem dL_faultPlace_16 : decode cL_faultPlace 16 = .ok (.ireturn, 1) := by decide +kernel
theorem dL_control_0 : decode cL_control 0 = .ok (.aload_n 1, 1) := by decide +kernel
theorem dL_control_1 : decode cL_control 1 = .ok (.iconst 0, 1) := by decide +kernel
theorem dL_control_2 : decode cL_control 2 = .ok (.aload_n 0, 1) := by decide +kernel
theorem dL_control_3 : decode cL_control 3 = .ok (.invokevirtual 41, 3) := by decide +kernel
theorem dL_control_6 : decode cL_control 6 = .ok (.i2l, 1) := by decide +kernel
theorem dL_control_7 : decode cL_control 7 = .ok (.lastore, 1) := by decide +kernel
theorem dL_control_8 : decode cL_control 8 = .ok (.goto 6, 3) := by decide +kernel
theorem dL_control_11 : decode cL_control 11 = .ok (.astore_n 2, 1) := by decide +kernel
theorem dL_control_12 : decode cL_control 12 = .ok (.iconst 1, 1) := by decide +kernel
theorem dL_control_13 : decode cL_control 13 = .ok (.ireturn, 1) := by decide +kernel
theorem dL_control_14 : decode cL_control 14 = .ok (.iconst 0, 1) := by decide +kernel
theorem dL_control_15 : decode cL_control 15 = .ok (.ireturn, 1) := by decide +kernel
theorem dL_segments_0 : decode cL_segments 0 = .ok (.aload_n 1, 1) := by decide +kernel
theorem dL_segments_1 : decode cL_segments 1 = .ok (.iconst 0, 1) := by decide +kernel
theorem dL_segments_2 : decode cL_segments 2 = .ok (.aload_n 0, 1) := by decide +kernel
theorem dL_segments_3 : decode cL_segments 3 = .ok (.invokevirtual 46, 3) := by decide +kernel
theorem dL_segments_6 : decode cL_segments 6 = .ok (.i2l, 1) := by decide +kernel
theorem dL_segments_7 : decode cL_segments 7 = .ok (.lastore, 1) := by decide +kernel
theorem dL_segments_8 : decode cL_segments 8 = .ok (.goto 6, 3) := by decide +kernel
theorem dL_segments_11 : decode cL_segments 11 = .ok (.astore_n 2, 1) := by decide +kernel
theorem dL_segments_12 : decode cL_segments 12 = .ok (.iconst 1, 1) := by decide +kernel
theorem dL_segments_13 : decode cL_segments 13 = .ok (.ireturn, 1) := by decide +kernel
theorem dL_segments_14 : decode cL_segments 14 = .ok (.iconst 0, 1) := by decide +kernel
theorem dL_segments_15 : decode cL_segments 15 = .ok (.ireturn, 1) := by decide +kernel
theorem dL_tag_0 : decode cL_tag 0 = .ok (.aload_n 2, 1) := by decide +kernel
theorem dL_tag_1 : decode cL_tag 1 = .ok (.iconst 0, 1) := by decide +kernel
theorem dL_tag_2 : decode cL_tag 2 = .ok (.aload_n 0, 1) := by decide +kernel
theorem dL_tag_3 : decode cL_tag 3 = .ok (.iload_n 1, 1) := by decide +kernel
theorem dL_tag_4 : decode cL_tag 4 = .ok (.invokevirtual 49, 3) := by decide +kernel
theorem dL_tag_7 : decode cL_tag 7 = .ok (.i2l, 1) := by decide +kernel
theorem dL_tag_8 : decode cL_tag 8 = .ok (.lastore, 1) := by decide +kernel
theorem dL_tag_9 : decode cL_tag 9 = .ok (.goto 9, 3) := by decide +kernel
theorem dL_tag_12 : decode cL_tag 12 = .ok (.astore_n 3, 1) := by decide +kernel
theorem dL_tag_13 : decode cL_tag 13 = .ok (.iconst 1, 1) := by decide +kernel
theorem dL_tag_14 : decode cL_tag 14 = .ok (.ireturn, 1) := by decide +kernel
theorem dL_tag_15 : decode cL_tag 15 = .ok (.astore_n 3, 1) := by decide +kernel
theorem dL_tag_16 : decode cL_tag 16 = .ok (.iconst 2, 1) := by decide +kernel
theorem dL_tag_17 : decode cL_tag 17 = .ok (.ireturn, 1) := by decide +kernel
theorem dL_tag_18 : decode cL_tag 18 = .ok (.iconst 0, 1) := by decide +kernel
theorem dL_tag_19 : decode cL_tag 19 = .ok (.ireturn, 1) := by decide +kernel
theorem dL_elements_0 : decode cL_elements 0 = .ok (.aload_n 2, 1) := by decide +kernel
theorem dL_elements_1 : decode cL_elements 1 = .ok (.iconst 0, 1) := by decide +kernel
theorem dL_elements_2 : decode cL_elements 2 = .ok (.aload_n 0, 1) := by decide +kernel
theorem dL_elements_3 : decode cL_elements 3 = .ok (.iload_n 1, 1) := by decide +kernel
theorem dL_elements_4 : decode cL_elements 4 = .ok (.invokevirtual 53, 3) := by decide +kernel
theorem dL_elements_7 : decode cL_elements 7 = .ok (.i2l, 1) := by decide +kernel
theorem dL_elements_8 : decode cL_elements 8 = .ok (.lastore, 1) := by decide +kernel
theorem dL_elements_9 : decode cL_elements 9 = .ok (.goto 9, 3) := by decide +kernel
theorem dL_elements_12 : decode cL_elements 12 = .ok (.astore_n 3, 1) := by decide +kernel
theorem dL_elements_13 : decode cL_elements 13 = .ok (.iconst 1, 1) := by decide +kernel
theorem dL_elements_14 : decode cL_elements 14 = .ok (.ireturn, 1) := by decide +kernel
theorem dL_elements_15 : decode cL_elements 15 = .ok (.astore_n 3, 1) := by decide +kernel
theorem dL_elements_16 : decode cL_elements 16 = .ok (.iconst 2, 1) := by decide +kernel
theorem dL_elements_17 : decode cL_elements 17 = .ok (.ireturn, 1) := by decide +kernel
theorem dL_elements_18 : decode cL_elements 18 = .ok (.iconst 0, 1) := by decide +kernel
theorem dL_elements_19 : decode cL_elements 19 = .ok (.ireturn, 1) := by decide +kernel
theorem dL_contentLength_0 : decode cL_contentLength 0 = .ok (.aload_n 3, 1) := by decide +kernel
theorem dL_contentLength_1 : decode cL_contentLength 1 = .ok (.iconst 0, 1) := by decide +kernel
theorem dL_contentLength_2 : decode cL_contentLength 2 = .ok (.aload_n 0, 1) := by decide +kernel
theorem dL_contentLength_3 : decode cL_contentLength 3 = .ok (.iload_n 1, 1) := by decide +kernel
theorem dL_contentLength_4 : decode cL_contentLength 4 = .ok (.iload_n 2, 1) := by decide +kernel
theorem dL_contentLength_5 : decode cL_contentLength 5 = .ok (.invokevirtual 56, 3) := by decide +kernel
theorem dL_contentLength_8 : decode cL_contentLength 8 = .ok (.i2l, 1) := by decide +kernel
theorem dL_contentLength_9 : decode cL_contentLength 9 = .ok (.lastore, 1) := by decide +kernel
theorem dL_contentLength_10 : decode cL_contentLength 10 = .ok (.goto 11, 3) := by decide +kernel
theorem dL_contentLength_13 : decode cL_contentLength 13 = .ok (.astore 4, 2) := by decide +kernel
theorem dL_contentLength_15 : decode cL_contentLength 15 = .ok (.iconst 1, 1) := by decide +kernel
theorem dL_contentLength_16 : decode cL_contentLength 16 = .ok (.ireturn, 1) := by decide +kernel
theorem dL_contentLength_17 : decode cL_contentLength 17 = .ok (.astore 4, 2) := by decide +kernel
theorem dL_contentLength_19 : decode cL_contentLength 19 = .ok (.iconst 2, 1) := by decide +kernel
theorem dL_contentLength_20 : decode cL_contentLength 20 = .ok (.ireturn, 1) := by decide +kernel
theorem dL_contentLength_21 : decode cL_contentLength 21 = .ok (.iconst 0, 1) := by decide +kernel
theorem dL_contentLength_22 : decode cL_contentLength 22 = .ok (.ireturn, 1) := by decide +kernel
theorem dL_content_0 : decode cL_content 0 = .ok (.aload 4, 2) := by decide +kernel
theorem dL_content_2 : decode cL_content 2 = .ok (.iconst 0, 1) := by decide +kernel
theorem dL_content_3 : decode cL_content 3 = .ok (.aload_n 0, 1) := by decide +kernel
theorem dL_content_4 : decode cL_content 4 = .ok (.iload_n 1, 1) := by decide +kernel
theorem dL_content_5 : decode cL_content 5 = .ok (.iload_n 2, 1) := by decide +kernel
theorem dL_content_6 : decode cL_content 6 = .ok (.iload_n 3, 1) := by decide +kernel
theorem dL_content_7 : decode cL_content 7 = .ok (.invokevirtual 60, 3) := by decide +kernel
theorem dL_content_10 : decode cL_content 10 = .ok (.i2l, 1) := by decide +kernel
theorem dL_content_11 : decode cL_content 11 = .ok (.lastore, 1) := by decide +kernel
theorem dL_content_12 : decode cL_content 12 = .ok (.goto 11, 3) := by decide +kernel
theorem dL_content_15 : decode cL_content 15 = .ok (.astore 5, 2) := by decide +kernel
theorem dL_content_17 : decode cL_content 17 = .ok (.iconst 1, 1) := by decide +kernel
theorem dL_content_18 : decode cL_content 18 = .ok (.ireturn, 1) := by decide +kernel
theorem dL_content_19 : decode cL_content 19 = .ok (.astore 5, 2) := by decide +kernel
theorem dL_content_21 : decode cL_content 21 = .ok (.iconst 2, 1) := by decide +kernel
theorem dL_content_22 : decode cL_content 22 = .ok (.ireturn, 1) := by decide +kernel
theorem dL_content_23 : decode cL_content 23 = .ok (.iconst 0, 1) := by decide +kernel
theorem dL_content_24 : decode cL_content 24 = .ok (.ireturn, 1) := by decide +kernel
theorem dL_item_0 : decode cL_item 0 = .ok (.aload_n 2, 1) := by decide +kernel
theorem dL_item_1 : decode cL_item 1 = .ok (.iconst 0, 1) := by decide +kernel
theorem dL_item_2 : decode cL_item 2 = .ok (.aload_n 0, 1) := by decide +kernel
theorem dL_item_3 : decode cL_item 3 = .ok (.iload_n 1, 1) := by decide +kernel
theorem dL_item_4 : decode cL_item 4 = .ok (.invokevirtual 64, 3) := by decide +kernel
theorem dL_item_7 : decode cL_item 7 = .ok (.i2l, 1) := by decide +kernel
theorem dL_item_8 : decode cL_item 8 = .ok (.lastore, 1) := by decide +kernel
theorem dL_item_9 : decode cL_item 9 = .ok (.goto 9, 3) := by decide +kernel
theorem dL_item_12 : decode cL_item 12 = .ok (.astore_n 3, 1) := by decide +kernel
theorem dL_item_13 : decode cL_item 13 = .ok (.iconst 1, 1) := by decide +kernel
theorem dL_item_14 : decode cL_item 14 = .ok (.ireturn, 1) := by decide +kernel
theorem dL_item_15 : decode cL_item 15 = .ok (.astore_n 3, 1) := by decide +kernel
theorem dL_item_16 : decode cL_item 16 = .ok (.iconst 2, 1) := by decide +kernel
theorem dL_item_17 : decode cL_item 17 = .ok (.ireturn, 1) := by decide +kernel
theorem dL_item_18 : decode cL_item 18 = .ok (.iconst 0, 1) := by decide +kernel
theorem dL_item_19 : decode cL_item 19 = .ok (.ireturn, 1) := by decide +kernel
theorem dL_pass_0 : decode cL_pass 0 = .ok (.aload_n 2, 1) := by decide +kernel
theorem dL_pass_1 : decode cL_pass 1 = .ok (.iconst 0, 1) := by decide +kernel
theorem dL_pass_2 : decode cL_pass 2 = .ok (.aload_n 0, 1) := by decide +kernel
theorem dL_pass_3 : decode cL_pass 3 = .ok (.iload_n 1, 1) := by decide +kernel
theorem dL_pass_4 : decode cL_pass 4 = .ok (.invokevirtual 67, 3) := by decide +kernel
theorem dL_pass_7 : decode cL_pass 7 = .ok (.i2l, 1) := by decide +kernel
theorem dL_pass_8 : decode cL_pass 8 = .ok (.lastore, 1) := by decide +kernel
theorem dL_pass_9 : decode cL_pass 9 = .ok (.goto 9, 3) := by decide +kernel
theorem dL_pass_12 : decode cL_pass 12 = .ok (.astore_n 3, 1) := by decide +kernel
theorem dL_pass_13 : decode cL_pass 13 = .ok (.iconst 1, 1) := by decide +kernel
theorem dL_pass_14 : decode cL_pass 14 = .ok (.ireturn, 1) := by decide +kernel
theorem dL_pass_15 : decode cL_pass 15 = .ok (.astore_n 3, 1) := by decide +kernel
theorem dL_pass_16 : decode cL_pass 16 = .ok (.iconst 2, 1) := by decide +kernel
theorem dL_pass_17 : decode cL_pass 17 = .ok (.ireturn, 1) := by decide +kernel
theorem dL_pass_18 : decode cL_pass 18 = .ok (.iconst 0, 1) := by decide +kernel
theorem dL_pass_19 : decode cL_pass 19 = .ok (.ireturn, 1) := by decide +kernel
theorem dL_addRule_0 : decode cL_addRule 0 = .ok (.aload_n 3, 1) := by decide +kernel
theorem dL_addRule_1 : decode cL_addRule 1 = .ok (.iconst 0, 1) := by decide +kernel
theorem dL_addRule_2 : decode cL_addRule 2 = .ok (.aload_n 0, 1) := by decide +kernel
theorem dL_addRule_3 : decode cL_addRule 3 = .ok (.iload_n 1, 1) := by decide +kernel
theorem dL_addRule_4 : decode cL_addRule 4 = .ok (.iload_n 2, 1) := by decide +kernel
theorem dL_addRule_5 : decode cL_addRule 5 = .ok (.invokevirtual 70, 3) := by decide +kernel
theorem dL_addRule_8 : decode cL_addRule 8 = .ok (.i2l, 1) := by decide +kernel
theorem dL_addRule_9 : decode cL_addRule 9 = .ok (.lastore, 1) := by decide +kernel
theorem dL_addRule_10 : decode cL_addRule 10 = .ok (.goto 15, 3) := by decide +kernel
theorem dL_addRule_13 : decode cL_addRule 13 = .ok (.astore 4, 2) := by decide +kernel
theorem dL_addRule_15 : decode cL_addRule 15 = .ok (.iconst 1, 1) := by decide +kernel
theorem dL_addRule_16 : decode cL_addRule 16 = .ok (.ireturn, 1) := by decide +kernel
theorem dL_addRule_17 : decode cL_addRule 17 = .ok (.astore 4, 2) := by decide +kernel
theorem dL_addRule_19 : decode cL_addRule 19 = .ok (.iconst 2, 1) := by decide +kernel
theorem dL_addRule_20 : decode cL_addRule 20 = .ok (.ireturn, 1) := by decide +kernel
theorem dL_addRule_21 : decode cL_addRule 21 = .ok (.astore 4, 2) := by decide +kernel
theorem dL_addRule_23 : decode cL_addRule 23 = .ok (.iconst 3, 1) := by decide +kernel
theorem dL_addRule_24 : decode cL_addRule 24 = .ok (.ireturn, 1) := by decide +kernel
theorem dL_addRule_25 : decode cL_addRule 25 = .ok (.iconst 0, 1) := by decide +kernel
theorem dL_addRule_26 : decode cL_addRule 26 = .ok (.ireturn, 1) := by decide +kernel
theorem dL_addField_0 : decode cL_addField 0 = .ok (.aload_n 3, 1) := by decide +kernel
theorem dL_addField_1 : decode cL_addField 1 = .ok (.iconst 0, 1) := by decide +kernel
theorem dL_addField_2 : decode cL_addField 2 = .ok (.aload_n 0, 1) := by decide +kernel
theorem dL_addField_3 : decode cL_addField 3 = .ok (.iload_n 1, 1) := by decide +kernel
theorem dL_addField_4 : decode cL_addField 4 = .ok (.iload_n 2, 1) := by decide +kernel
theorem dL_addField_5 : decode cL_addField 5 = .ok (.invokevirtual 74, 3) := by decide +kernel
theorem dL_addField_8 : decode cL_addField 8 = .ok (.i2l, 1) := by decide +kernel
theorem dL_addField_9 : decode cL_addField 9 = .ok (.lastore, 1) := by decide +kernel
theorem dL_addField_10 : decode cL_addField 10 = .ok (.goto 15, 3) := by decide +kernel
theorem dL_addField_13 : decode cL_addField 13 = .ok (.astore 4, 2) := by decide +kernel
theorem dL_addField_15 : decode cL_addField 15 = .ok (.iconst 1, 1) := by decide +kernel
theorem dL_addField_16 : decode cL_addField 16 = .ok (.ireturn, 1) := by decide +kernel
theorem dL_addField_17 : decode cL_addField 17 = .ok (.astore 4, 2) := by decide +kernel
theorem dL_addField_19 : decode cL_addField 19 = .ok (.iconst 2, 1) := by decide +kernel
theorem dL_addField_20 : decode cL_addField 20 = .ok (.ireturn, 1) := by decide +kernel
theorem dL_addField_21 : decode cL_addField 21 = .ok (.astore 4, 2) := by decide +kernel
theorem dL_addField_23 : decode cL_addField 23 = .ok (.iconst 3, 1) := by decide +kernel
theorem dL_addField_24 : decode cL_addField 24 = .ok (.ireturn, 1) := by decide +kernel
theorem dL_addField_25 : decode cL_addField 25 = .ok (.iconst 0, 1) := by decide +kernel
theorem dL_addField_26 : decode cL_addField 26 = .ok (.ireturn, 1) := by decide +kernel
theorem dL_setCondition_0 : decode cL_setCondition 0 = .ok (.aload_n 0, 1) := by decide +kernel
theorem dL_setCondition_1 : decode cL_setCondition 1 = .ok (.iload_n 1, 1) := by decide +kernel
theorem dL_setCondition_2 : decode cL_setCondition 2 = .ok (.iload_n 2, 1) := by decide +kernel
theorem dL_setCondition_3 : decode cL_setCondition 3 = .ok (.iload_n 3, 1) := by decide +kernel
theorem dL_setCondition_4 : decode cL_setCondition 4 = .ok (.invokevirtual 77, 3) := by decide +kernel
theorem dL_setCondition_7 : decode cL_setCondition 7 = .ok (.goto 11, 3) := by decide +kernel
theorem dL_setCondition_10 : decode cL_setCondition 10 = .ok (.astore 4, 2) := by decide +kernel
theorem dL_setCondition_12 : decode cL_setCondition 12 = .ok (.iconst 1, 1) := by decide +kernel
theorem dL_setCondition_13 : decode cL_setCondition 13 = .ok (.ireturn, 1) := by decide +kernel
theorem dL_setCondition_14 : decode cL_setCondition 14 = .ok (.astore 4, 2) := by decide +kernel
theorem dL_setCondition_16 : decode cL_setCondition 16 = .ok (.iconst 2, 1) := by decide +kernel
theorem dL_setCondition_17 : decode cL_setCondition 17 = .ok (.ireturn, 1) := by decide +kernel
theorem dL_setCondition_18 : decode cL_setCondition 18 = .ok (.iconst 0, 1) := by decide +kernel
theorem dL_setCondition_19 : decode cL_setCondition 19 = .ok (.ireturn, 1) := by decide +kernel
theorem dL_write_0 : decode cL_write 0 = .ok (.aload_n 1, 1) := by decide +kernel
theorem dL_write_1 : decode cL_write 1 = .ok (.iconst 0, 1) := by decide +kernel
theorem dL_write_2 : decode cL_write 2 = .ok (.aload_n 0, 1) := by decide +kernel
theorem dL_write_3 : decode cL_write 3 = .ok (.invokevirtual 81, 3) := by decide +kernel
theorem dL_write_6 : decode cL_write 6 = .ok (.i2l, 1) := by decide +kernel
theorem dL_write_7 : decode cL_write 7 = .ok (.lastore, 1) := by decide +kernel
theorem dL_write_8 : decode cL_write 8 = .ok (.goto 6, 3) := by decide +kernel
theorem dL_write_11 : decode cL_write 11 = .ok (.astore_n 2, 1) := by decide +kernel
theorem dL_write_12 : decode cL_write 12 = .ok (.iconst 1, 1) := by decide +kernel
theorem dL_write_13 : decode cL_write 13 = .ok (.ireturn, 1) := by decide +kernel
theorem dL_write_14 : decode cL_write 14 = .ok (.iconst 0, 1) := by decide +kernel
theorem dL_write_15 : decode cL_write 15 = .ok (.ireturn, 1) := by decide +kernel
theorem dL_letter_0 : decode cL_letter 0 = .ok (.aload_n 2, 1) := by decide +kernel
theorem dL_letter_1 : decode cL_letter 1 = .ok (.iconst 0, 1) := by decide +kernel
theorem dL_letter_2 : decode cL_letter 2 = .ok (.aload_n 0, 1) := by decide +kernel
theorem dL_letter_3 : decode cL_letter 3 = .ok (.iload_n 1, 1) := by decide +kernel
theorem dL_letter_4 : decode cL_letter 4 = .ok (.invokevirtual 84, 3) := by decide +kernel
theorem dL_letter_7 : decode cL_letter 7 = .ok (.i2l, 1) := by decide +kernel
theorem dL_letter_8 : decode cL_letter 8 = .ok (.lastore, 1) := by decide +kernel
theorem dL_letter_9 : decode cL_letter 9 = .ok (.goto 6, 3) := by decide +kernel
theorem dL_letter_12 : decode cL_letter 12 = .ok (.astore_n 3, 1) := by decide +kernel
theorem dL_letter_13 : decode cL_letter 13 = .ok (.iconst 1, 1) := by decide +kernel
theorem dL_letter_14 : decode cL_letter 14 = .ok (.ireturn, 1) := by decide +kernel
theorem dL_letter_15 : decode cL_letter 15 = .ok (.iconst 0, 1) := by decide +kernel
theorem dL_letter_16 : decode cL_letter 16 = .ok (.ireturn, 1) := by decide +kernel
theorem dL_feedWritten_0 : decode cL_feedWritten 0 = .ok (.aload_n 1, 1) := by decide +kernel
theorem dL_feedWritten_1 : decode cL_feedWritten 1 = .ok (.iconst 0, 1) := by decide +kernel
theorem dL_feedWritten_2 : decode cL_feedWritten 2 = .ok (.aload_n 0, 1) := by decide +kernel
theorem dL_feedWritten_3 : decode cL_feedWritten 3 = .ok (.invokevirtual 87, 3) := by decide +kernel
theorem dL_feedWritten_6 : decode cL_feedWritten 6 = .ok (.i2l, 1) := by decide +kernel
theorem dL_feedWritten_7 : decode cL_feedWritten 7 = .ok (.lastore, 1) := by decide +kernel
theorem dL_feedWritten_8 : decode cL_feedWritten 8 = .ok (.goto 6, 3) := by decide +kernel
theorem dL_feedWritten_11 : decode cL_feedWritten 11 = .ok (.astore_n 2, 1) := by decide +kernel
theorem dL_feedWritten_12 : decode cL_feedWritten 12 = .ok (.iconst 1, 1) := by decide +kernel
theorem dL_feedWritten_13 : decode cL_feedWritten 13 = .ok (.ireturn, 1) := by decide +kernel
theorem dL_feedWritten_14 : decode cL_feedWritten 14 = .ok (.iconst 0, 1) := by decide +kernel
theorem dL_feedWritten_15 : decode cL_feedWritten 15 = .ok (.ireturn, 1) := by decide +kernel
theorem dL_law_0 : decode cL_law 0 = .ok (.new 8, 3) := by decide +kernel
theorem dL_law_3 : decode cL_law 3 = .ok (.dup, 1) := by decide +kernel
theorem dL_law_4 : decode cL_law 4 = .ok (.invokespecial 90, 3) := by decide +kernel
theorem dL_law_7 : decode cL_law 7 = .ok (.astore_n 1, 1) := by decide +kernel
theorem dL_law_8 : decode cL_law 8 = .ok (.new 91, 3) := by decide +kernel
theorem dL_law_11 : decode cL_law 11 = .ok (.dup, 1) := by decide +kernel
theorem dL_law_12 : decode cL_law 12 = .ok (.invokespecial 93, 3) := by decide +kernel
theorem dL_law_15 : decode cL_law 15 = .ok (.astore_n 2, 1) := by decide +kernel
theorem dL_law_16 : decode cL_law 16 = .ok (.iconst 1, 1) := by decide +kernel
theorem dL_law_17 : decode cL_law 17 = .ok (.newarray .long, 2) := by decide +kernel
theorem dL_law_19 : decode cL_law 19 = .ok (.astore_n 3, 1) := by decide +kernel
theorem dL_law_20 : decode cL_law 20 = .ok (.iconst 0, 1) := by decide +kernel
theorem dL_law_21 : decode cL_law 21 = .ok (.istore 4, 2) := by decide +kernel
theorem dL_law_23 : decode cL_law 23 = .ok (.iload 4, 2) := by decide +kernel
theorem dL_law_25 : decode cL_law 25 = .ok (.aload_n 0, 1) := by decide +kernel
theorem dL_law_26 : decode cL_law 26 = .ok (.arraylength, 1) := by decide +kernel
theorem dL_law_27 : decode cL_law 27 = .ok (.iconst 4, 1) := by decide +kernel
theorem dL_law_28 : decode cL_law 28 = .ok (.isub, 1) := by decide +kernel
theorem dL_law_29 : decode cL_law 29 = .ok (.if_icmp .gt 1388, 3) := by decide +kernel
theorem dL_law_32 : decode cL_law 32 = .ok (.aload_n 0, 1) := by decide +kernel
theorem dL_law_33 : decode cL_law 33 = .ok (.iload 4, 2) := by decide +kernel
theorem dL_law_35 : decode cL_law 35 = .ok (.iaload, 1) := by decide +kernel
theorem dL_law_36 : decode cL_law 36 = .ok (.bipush 31, 2) := by decide +kernel
theorem dL_law_38 : decode cL_law 38 = .ok (.iand, 1) := by decide +kernel
theorem dL_law_39 : decode cL_law 39 = .ok (.tableswitch 1372 0 25 #[117, 199, 247, 291, 302, 315, 373, 386, 399, 443, 499, 555, 599, 643, 699, 755, 823, 903, 959, 1015, 1085, 1153, 1215, 1259, 1272, 1328], 117) := by decide +kernel
theorem dL_law_156 : decode cL_law 156 = .ok (.aload_n 1, 1) := by decide +kernel
theorem dL_law_157 : decode cL_law 157 = .ok (.aload_n 0, 1) := by decide +kernel
theorem dL_law_158 : decode cL_law 158 = .ok (.iload 4, 2) := by decide +kernel
theorem dL_law_160 : decode cL_law 160 = .ok (.iconst 1, 1) := by decide +kernel
theorem dL_law_161 : decode cL_law 161 = .ok (.iadd, 1) := by decide +kernel
theorem dL_law_162 : decode cL_law 162 = .ok (.iaload, 1) := by decide +kernel
theorem dL_law_163 : decode cL_law 163 = .ok (.i2c, 1) := by decide +kernel
theorem dL_law_164 : decode cL_law 164 = .ok (.aload_n 0, 1) := by decide +kernel
theorem dL_law_165 : decode cL_law 165 = .ok (.iload 4, 2) := by decide +kernel
theorem dL_law_167 : decode cL_law 167 = .ok (.iconst 2, 1) := by decide +kernel
theorem dL_law_168 : decode cL_law 168 = .ok (.iadd, 1) := by decide +kernel
theorem dL_law_169 : decode cL_law 169 = .ok (.iaload, 1) := by decide +kernel
theorem dL_law_170 : decode cL_law 170 = .ok (.aload_n 0, 1) := by decide +kernel
theorem dL_law_171 : decode cL_law 171 = .ok (.iload 4, 2) := by decide +kernel
theorem dL_law_173 : decode cL_law 173 = .ok (.iconst 3, 1) := by decide +kernel
theorem dL_law_174 : decode cL_law 174 = .ok (.iadd, 1) := by decide +kernel
theorem dL_law_175 : decode cL_law 175 = .ok (.iaload, 1) := by decide +kernel
theorem dL_law_176 : decode cL_law 176 = .ok (.aload_n 3, 1) := by decide +kernel
theorem dL_law_177 : decode cL_law 177 = .ok (.invokestatic 94, 3) := by decide +kernel
theorem dL_law_180 : decode cL_law 180 = .ok (.istore 5, 2) := by decide +kernel
theorem dL_law_182 : decode cL_law 182 = .ok (.aload_n 2, 1) := by decide +kernel
theorem dL_law_183 : decode cL_law 183 = .ok (.aload_n 0, 1) := by decide +kernel
theorem dL_law_184 : decode cL_law 184 = .ok (.iload 4, 2) := by decide +kernel
theorem dL_law_186 : decode cL_law 186 = .ok (.iconst 1, 1) := by decide +kernel
theorem dL_law_187 : decode cL_law 187 = .ok (.iadd, 1) := by decide +kernel
theorem dL_law_188 : decode cL_law 188 = .ok (.iaload, 1) := by decide +kernel
theorem dL_law_189 : decode cL_law 189 = .ok (.i2c, 1) := by decide +kernel
theorem dL_law_190 : decode cL_law 190 = .ok (.aload_n 0, 1) := by decide +kernel
theorem dL_law_191 : decode cL_law 191 = .ok (.iload 4, 2) := by decide +kernel
theorem dL_law_193 : decode cL_law 193 = .ok (.iconst 2, 1) := by decide +kernel
theorem dL_law_194 : decode cL_law 194 = .ok (.iadd, 1) := by decide +kernel
theorem dL_law_195 : decode cL_law 195 = .ok (.iaload, 1) := by decide +kernel
theorem dL_law_196 : decode cL_law 196 = .ok (.aload_n 0, 1) := by decide +kernel
theorem dL_law_197 : decode cL_law 197 = .ok (.iload 4, 2) := by decide +kernel
theorem dL_law_199 : decode cL_law 199 = .ok (.iconst 3, 1) := by decide +kernel
theorem dL_law_200 : decode cL_law 200 = .ok (.iadd, 1) := by decide +kernel
theorem dL_law_201 : decode cL_law 201 = .ok (.iaload, 1) := by decide +kernel
theorem dL_law_202 : decode cL_law 202 = .ok (.invokevirtual 99, 3) := by decide +kernel
theorem dL_law_205 : decode cL_law 205 = .ok (.istore 6, 2) := by decide +kernel
theorem dL_law_207 : decode cL_law 207 = .ok (.aload_n 2, 1) := by decide +kernel
theorem dL_law_208 : decode cL_law 208 = .ok (.invokevirtual 100, 3) := by decide +kernel
theorem dL_law_211 : decode cL_law 211 = .ok (.iload 5, 2) := by decide +kernel
theorem dL_law_213 : decode cL_law 213 = .ok (.if_icmp .eq 5, 3) := by decide +kernel
theorem dL_law_216 : decode cL_law 216 = .ok (.iconst 0, 1) := by decide +kernel
theorem dL_law_217 : decode cL_law 217 = .ok (.ireturn, 1) := by decide +kernel
theorem dL_law_218 : decode cL_law 218 = .ok (.iload 5, 2) := by decide +kernel
theorem dL_law_220 : decode cL_law 220 = .ok (.ifCond .ne 15, 3) := by decide +kernel
theorem dL_law_223 : decode cL_law 223 = .ok (.aload_n 3, 1) := by decide +kernel
theorem dL_law_224 : decode cL_law 224 = .ok (.iconst 0, 1) := by decide +kernel
theorem dL_law_225 : decode cL_law 225 = .ok (.laload, 1) := by decide +kernel
theorem dL_law_226 : decode cL_law 226 = .ok (.iload 6, 2) := by decide +kernel
theorem dL_law_228 : decode cL_law 228 = .ok (.i2l, 1) := by decide +kernel
theorem dL_law_229 : decode cL_law 229 = .ok (.lcmp, 1) := by decide +kernel
theorem dL_law_230 : decode cL_law 230 = .ok (.ifCond .eq 5, 3) := by decide +kernel
theorem dL_law_233 : decode cL_law 233 = .ok (.iconst 0, 1) := by decide +kernel
theorem dL_law_234 : decode cL_law 234 = .ok (.ireturn, 1) := by decide +kernel
theorem dL_law_235 : decode cL_law 235 = .ok (.goto 1176, 3) := by decide +kernel
theorem dL_law_238 : decode cL_law 238 = .ok (.aload_n 1, 1) := by decide +kernel
theorem dL_law_239 : decode cL_law 239 = .ok (.aload_n 0, 1) := by decide +kernel
theorem dL_law_240 : decode cL_law 240 = .ok (.iload 4, 2) := by decide +kernel
theorem dL_law_242 : decode cL_law 242 = .ok (.iconst 1, 1) := by decide +kernel
theorem dL_law_243 : decode cL_law 243 = .ok (.iadd, 1) := by decide +kernel
theorem dL_law_244 : decode cL_law 244 = .ok (.iaload, 1) := by decide +kernel
theorem dL_law_245 : decode cL_law 245 = .ok (.aload_n 0, 1) := by decide +kernel
theorem dL_law_246 : decode cL_law 246 = .ok (.iload 4, 2) := by decide +kernel
theorem dL_law_248 : decode cL_law 248 = .ok (.iconst 2, 1) := by decide +kernel
theorem dL_law_249 : decode cL_law 249 = .ok (.iadd, 1) := by decide +kernel
theorem dL_law_250 : decode cL_law 250 = .ok (.iaload, 1) := by decide +kernel
theorem dL_law_251 : decode cL_law 251 = .ok (.invokestatic 103, 3) := by decide +kernel
theorem dL_law_254 : decode cL_law 254 = .ok (.istore 5, 2) := by decide +kernel
theorem dL_law_256 : decode cL_law 256 = .ok (.aload_n 2, 1) := by decide +kernel
theorem dL_law_257 : decode cL_law 257 = .ok (.aload_n 0, 1) := by decide +kernel
theorem dL_law_258 : decode cL_law 258 = .ok (.iload 4, 2) := by decide +kernel
theorem dL_law_260 : decode cL_law 260 = .ok (.iconst 1, 1) := by decide +kernel
theorem dL_law_261 : decode cL_law 261 = .ok (.iadd, 1) := by decide +kernel
theorem dL_law_262 : decode cL_law 262 = .ok (.iaload, 1) := by decide +kernel
theorem dL_law_263 : decode cL_law 263 = .ok (.aload_n 0, 1) := by decide +kernel
theorem dL_law_264 : decode cL_law 264 = .ok (.iload 4, 2) := by decide +kernel
theorem dL_law_266 : decode cL_law 266 = .ok (.iconst 2, 1) := by decide +kernel
theorem dL_law_267 : decode cL_law 267 = .ok (.iadd, 1) := by decide +kernel
theorem dL_law_268 : decode cL_law 268 = .ok (.iaload, 1) := by decide +kernel
theorem dL_law_269 : decode cL_law 269 = .ok (.invokevirtual 106, 3) := by decide +kernel
theorem dL_law_272 : decode cL_law 272 = .ok (.aload_n 2, 1) := by decide +kernel
theorem dL_law_273 : decode cL_law 273 = .ok (.invokevirtual 100, 3) := by decide +kernel
theorem dL_law_276 : decode cL_law 276 = .ok (.iload 5, 2) := by decide +kernel
theorem dL_law_278 : decode cL_law 278 = .ok (.if_icmp .eq 5, 3) := by decide +kernel
theorem dL_law_281 : decode cL_law 281 = .ok (.iconst 0, 1) := by decide +kernel
theorem dL_law_282 : decode cL_law 282 = .ok (.ireturn, 1) := by decide +kernel
theorem dL_law_283 : decode cL_law 283 = .ok (.goto 1128, 3) := by decide +kernel
theorem dL_law_286 : decode cL_law 286 = .ok (.aload_n 1, 1) := by decide +kernel
theorem dL_law_287 : decode cL_law 287 = .ok (.aload_n 3, 1) := by decide +kernel
theorem dL_law_288 : decode cL_law 288 = .ok (.invokestatic 107, 3) := by decide +kernel
theorem dL_law_291 : decode cL_law 291 = .ok (.istore 5, 2) := by decide +kernel
theorem dL_law_293 : decode cL_law 293 = .ok (.aload_n 2, 1) := by decide +kernel
theorem dL_law_294 : decode cL_law 294 = .ok (.invokevirtual 110, 3) := by decide +kernel
theorem dL_law_297 : decode cL_law 297 = .ok (.istore 6, 2) := by decide +kernel
theorem dL_law_299 : decode cL_law 299 = .ok (.aload_n 2, 1) := by decide +kernel
theorem dL_law_300 : decode cL_law 300 = .ok (.invokevirtual 100, 3) := by decide +kernel
theorem dL_law_303 : decode cL_law 303 = .ok (.iload 5, 2) := by decide +kernel
theorem dL_law_305 : decode cL_law 305 = .ok (.if_icmp .eq 5, 3) := by decide +kernel
theorem dL_law_308 : decode cL_law 308 = .ok (.iconst 0, 1) := by decide +kernel
theorem dL_law_309 : decode cL_law 309 = .ok (.ireturn, 1) := by decide +kernel
theorem dL_law_310 : decode cL_law 310 = .ok (.iload 5, 2) := by decide +kernel
theorem dL_law_312 : decode cL_law 312 = .ok (.ifCond .ne 15, 3) := by decide +kernel
theorem dL_law_315 : decode cL_law 315 = .ok (.aload_n 3, 1) := by decide +kernel
theorem dL_law_316 : decode cL_law 316 = .ok (.iconst 0, 1) := by decide +kernel
theorem dL_law_317 : decode cL_law 317 = .ok (.laload, 1) := by decide +kernel
theorem dL_law_318 : decode cL_law 318 = .ok (.iload 6, 2) := by decide +kernel
theorem dL_law_320 : decode cL_law 320 = .ok (.i2l, 1) := by decide +kernel
theorem dL_law_321 : decode cL_law 321 = .ok (.lcmp, 1) := by decide +kernel
theorem dL_law_322 : decode cL_law 322 = .ok (.ifCond .eq 5, 3) := by decide +kernel
theorem dL_law_325 : decode cL_law 325 = .ok (.iconst 0, 1) := by decide +kernel
theorem dL_law_326 : decode cL_law 326 = .ok (.ireturn, 1) := by decide +kernel
theorem dL_law_327 : decode cL_law 327 = .ok (.goto 1084, 3) := by decide +kernel
theorem dL_law_330 : decode cL_law 330 = .ok (.aload_n 1, 1) := by decide +kernel
theorem dL_law_331 : decode cL_law 331 = .ok (.invokevirtual 111, 3) := by decide +kernel
theorem dL_law_334 : decode cL_law 334 = .ok (.aload_n 2, 1) := by decide +kernel
theorem dL_law_335 : decode cL_law 335 = .ok (.invokevirtual 114, 3) := by decide +kernel
theorem dL_law_338 : decode cL_law 338 = .ok (.goto 1073, 3) := by decide +kernel
theorem dL_law_341 : decode cL_law 341 = .ok (.aload_n 1, 1) := by decide +kernel
theorem dL_law_342 : decode cL_law 342 = .ok (.invokevirtual 115, 3) := by decide +kernel
theorem dL_law_345 : decode cL_law 345 = .ok (.aload_n 2, 1) := by decide +kernel
theorem dL_law_346 : decode cL_law 346 = .ok (.invokevirtual 118, 3) := by decide +kernel
theorem dL_law_349 : decode cL_law 349 = .ok (.if_icmp .eq 1062, 3) := by decide +kernel
theorem dL_law_352 : decode cL_law 352 = .ok (.iconst 0, 1) := by decide +kernel
theorem dL_law_353 : decode cL_law 353 = .ok (.ireturn, 1) := by decide +kernel
theorem dL_law_354 : decode cL_law 354 = .ok (.aload_n 1, 1) := by decide +kernel
theorem dL_law_355 : decode cL_law 355 = .ok (.aload_n 0, 1) := by decide +kernel
theorem dL_law_356 : decode cL_law 356 = .ok (.iload 4, 2) := by decide +kernel
theorem dL_law_358 : decode cL_law 358 = .ok (.iconst 1, 1) := by decide +kernel
theorem dL_law_359 : decode cL_law 359 = .ok (.iadd, 1) := by decide +kernel
theorem dL_law_360 : decode cL_law 360 = .ok (.iaload, 1) := by decide +kernel
theorem dL_law_361 : decode cL_law 361 = .ok (.i2c, 1) := by decide +kernel
theorem dL_law_362 : decode cL_law 362 = .ok (.aload_n 3, 1) := by decide +kernel
theorem dL_law_363 : decode cL_law 363 = .ok (.invokestatic 119, 3) := by decide +kernel
theorem dL_law_366 : decode cL_law 366 = .ok (.istore 5, 2) := by decide +kernel
theorem dL_law_368 : decode cL_law 368 = .ok (.aload_n 2, 1) := by decide +kernel
theorem dL_law_369 : decode cL_law 369 = .ok (.aload_n 0, 1) := by decide +kernel
theorem dL_law_370 : decode cL_law 370 = .ok (.iload 4, 2) := by decide +kernel
theorem dL_law_372 : decode cL_law 372 = .ok (.iconst 1, 1) := by decide +kernel
theorem dL_law_373 : decode cL_law 373 = .ok (.iadd, 1) := by decide +kernel
theorem dL_law_374 : decode cL_law 374 = .ok (.iaload, 1) := by decide +kernel
theorem dL_law_375 : decode cL_law 375 = .ok (.i2c, 1) := by decide +kernel
theorem dL_law_376 : decode cL_law 376 = .ok (.invokevirtual 122, 3) := by decide +kernel
theorem dL_law_379 : decode cL_law 379 = .ok (.istore 6, 2) := by decide +kernel
theorem dL_law_381 : decode cL_law 381 = .ok (.aload_n 2, 1) := by decide +kernel
theorem dL_law_382 : decode cL_law 382 = .ok (.invokevirtual 100, 3) := by decide +kernel
theorem dL_law_385 : decode cL_law 385 = .ok (.iload 5, 2) := by decide +kernel
theorem dL_law_387 : decode cL_law 387 = .ok (.if_icmp .eq 5, 3) := by decide +kernel
theorem dL_law_390 : decode cL_law 390 = .ok (.iconst 0, 1) := by decide +kernel
theorem dL_law_391 : decode cL_law 391 = .ok (.ireturn, 1) := by decide +kernel
theorem dL_law_392 : decode cL_law 392 = .ok (.iload 5, 2) := by decide +kernel
theorem dL_law_394 : decode cL_law 394 = .ok (.ifCond .ne 15, 3) := by decide +kernel
theorem dL_law_397 : decode cL_law 397 = .ok (.aload_n 3, 1) := by decide +kernel
theorem dL_law_398 : decode cL_law 398 = .ok (.iconst 0, 1) := by decide +kernel
theorem dL_law_399 : decode cL_law 399 = .ok (.laload, 1) := by decide +kernel
theorem dL_law_400 : decode cL_law 400 = .ok (.iload 6, 2) := by decide +kernel
theorem dL_law_402 : decode cL_law 402 = .ok (.i2l, 1) := by decide +kernel
theorem dL_law_403 : decode cL_law 403 = .ok (.lcmp, 1) := by decide +kernel
theorem dL_law_404 : decode cL_law 404 = .ok (.ifCond .eq 5, 3) := by decide +kernel
theorem dL_law_407 : decode cL_law 407 = .ok (.iconst 0, 1) := by decide +kernel
theorem dL_law_408 : decode cL_law 408 = .ok (.ireturn, 1) := by decide +kernel
theorem dL_law_409 : decode cL_law 409 = .ok (.goto 1002, 3) := by decide +kernel
theorem dL_law_412 : decode cL_law 412 = .ok (.aload_n 1, 1) := by decide +kernel
theorem dL_law_413 : decode cL_law 413 = .ok (.invokevirtual 123, 3) := by decide +kernel
theorem dL_law_416 : decode cL_law 416 = .ok (.aload_n 2, 1) := by decide +kernel
theorem dL_law_417 : decode cL_law 417 = .ok (.invokevirtual 126, 3) := by decide +kernel
theorem dL_law_420 : decode cL_law 420 = .ok (.if_icmp .eq 991, 3) := by decide +kernel
theorem dL_law_423 : decode cL_law 423 = .ok (.iconst 0, 1) := by decide +kernel
theorem dL_law_424 : decode cL_law 424 = .ok (.ireturn, 1) := by decide +kernel
theorem dL_law_425 : decode cL_law 425 = .ok (.aload_n 1, 1) := by decide +kernel
theorem dL_law_426 : decode cL_law 426 = .ok (.invokevirtual 127, 3) := by decide +kernel
theorem dL_law_429 : decode cL_law 429 = .ok (.aload_n 2, 1) := by decide +kernel
theorem dL_law_430 : decode cL_law 430 = .ok (.invokevirtual 130, 3) := by decide +kernel
theorem dL_law_433 : decode cL_law 433 = .ok (.if_icmp .eq 978, 3) := by decide +kernel
theorem dL_law_436 : decode cL_law 436 = .ok (.iconst 0, 1) := by decide +kernel
theorem dL_law_437 : decode cL_law 437 = .ok (.ireturn, 1) := by decide +kernel
theorem dL_law_438 : decode cL_law 438 = .ok (.aload_n 1, 1) := by decide +kernel
theorem dL_law_439 : decode cL_law 439 = .ok (.aload_n 3, 1) := by decide +kernel
theorem dL_law_440 : decode cL_law 440 = .ok (.invokestatic 131, 3) := by decide +kernel
theorem dL_law_443 : decode cL_law 443 = .ok (.istore 5, 2) := by decide +kernel
theorem dL_law_445 : decode cL_law 445 = .ok (.aload_n 2, 1) := by decide +kernel
theorem dL_law_446 : decode cL_law 446 = .ok (.invokevirtual 133, 3) := by decide +kernel
theorem dL_law_449 : decode cL_law 449 = .ok (.istore 6, 2) := by decide +kernel
theorem dL_law_451 : decode cL_law 451 = .ok (.aload_n 2, 1) := by decide +kernel
theorem dL_law_452 : decode cL_law 452 = .ok (.invokevirtual 100, 3) := by decide +kernel
theorem dL_law_455 : decode cL_law 455 = .ok (.iload 5, 2) := by decide +kernel
theorem dL_law_457 : decode cL_law 457 = .ok (.if_icmp .eq 5, 3) := by decide +kernel
theorem dL_law_460 : decode cL_law 460 = .ok (.iconst 0, 1) := by decide +kernel
theorem dL_law_461 : decode cL_law 461 = .ok (.ireturn, 1) := by decide +kernel
theorem dL_law_462 : decode cL_law 462 = .ok (.iload 5, 2) := by decide +kernel
theorem dL_law_464 : decode cL_law 464 = .ok (.ifCond .ne 15, 3) := by decide +kernel
theorem dL_law_467 : decode cL_law 467 = .ok (.aload_n 3, 1) := by decide +kernel
theorem dL_law_468 : decode cL_law 468 = .ok (.iconst 0, 1) := by decide +kernel
theorem dL_law_469 : decode cL_law 469 = .ok (.laload, 1) := by decide +kernel
theorem dL_law_470 : decode cL_law 470 = .ok (.iload 6, 2) := by decide +kernel
theorem dL_law_472 : decode cL_law 472 = .ok (.i2l, 1) := by decide +kernel
theorem dL_law_473 : decode cL_law 473 = .ok (.lcmp, 1) := by decide +kernel
theorem dL_law_474 : decode cL_law 474 = .ok (.ifCond .eq 5, 3) := by decide +kernel
theorem dL_law_477 : decode cL_law 477 = .ok (.iconst 0, 1) := by decide +kernel
theorem dL_law_478 : decode cL_law 478 = .ok (.ireturn, 1) := by decide +kernel
theorem dL_law_479 : decode cL_law 479 = .ok (.goto 932, 3) := by decide +kernel
theorem dL_law_482 : decode cL_law 482 = .ok (.aload_n 1, 1) := by decide +kernel
theorem dL_law_483 : decode cL_law 483 = .ok (.aload_n 0, 1) := by decide +kernel
theorem dL_law_484 : decode cL_law 484 = .ok (.iload 4, 2) := by decide +kernel
theorem dL_law_486 : decode cL_law 486 = .ok (.iconst 1, 1) := by decide +kernel
theorem dL_law_487 : decode cL_law 487 = .ok (.iadd, 1) := by decide +kernel
theorem dL_law_488 : decode cL_law 488 = .ok (.iaload, 1) := by decide +kernel
theorem dL_law_489 : decode cL_law 489 = .ok (.aload_n 3, 1) := by decide +kernel
theorem dL_law_490 : decode cL_law 490 = .ok (.invokestatic 134, 3) := by decide +kernel
theorem dL_law_493 : decode cL_law 493 = .ok (.istore 5, 2) := by decide +kernel
theorem dL_law_495 : decode cL_law 495 = .ok (.aload_n 2, 1) := by decide +kernel
theorem dL_law_496 : decode cL_law 496 = .ok (.aload_n 0, 1) := by decide +kernel
theorem dL_law_497 : decode cL_law 497 = .ok (.iload 4, 2) := by decide +kernel
theorem dL_law_499 : decode cL_law 499 = .ok (.iconst 1, 1) := by decide +kernel
theorem dL_law_500 : decode cL_law 500 = .ok (.iadd, 1) := by decide +kernel
theorem dL_law_501 : decode cL_law 501 = .ok (.iaload, 1) := by decide +kernel
theorem dL_law_502 : decode cL_law 502 = .ok (.invokevirtual 137, 3) := by decide +kernel
theorem dL_law_505 : decode cL_law 505 = .ok (.istore 6, 2) := by decide +kernel
theorem dL_law_507 : decode cL_law 507 = .ok (.aload_n 2, 1) := by decide +kernel
theorem dL_law_508 : decode cL_law 508 = .ok (.invokevirtual 100, 3) := by decide +kernel
theorem dL_law_511 : decode cL_law 511 = .ok (.iload 5, 2) := by decide +kernel
theorem dL_law_513 : decode cL_law 513 = .ok (.if_icmp .eq 5, 3) := by decide +kernel
theorem dL_law_516 : decode cL_law 516 = .ok (.iconst 0, 1) := by decide +kernel
theorem dL_law_517 : decode cL_law 517 = .ok (.ireturn, 1) := by decide +kernel
theorem dL_law_518 : decode cL_law 518 = .ok (.iload 5, 2) := by decide +kernel
theorem dL_law_520 : decode cL_law 520 = .ok (.ifCond .ne 15, 3) := by decide +kernel
theorem dL_law_523 : decode cL_law 523 = .ok (.aload_n 3, 1) := by decide +kernel
theorem dL_law_524 : decode cL_law 524 = .ok (.iconst 0, 1) := by decide +kernel
theorem dL_law_525 : decode cL_law 525 = .ok (.laload, 1) := by decide +kernel
theorem dL_law_526 : decode cL_law 526 = .ok (.iload 6, 2) := by decide +kernel
theorem dL_law_528 : decode cL_law 528 = .ok (.i2l, 1) := by decide +kernel
theorem dL_law_529 : decode cL_law 529 = .ok (.lcmp, 1) := by decide +kernel
theorem dL_law_530 : decode cL_law 530 = .ok (.ifCond .eq 5, 3) := by decide +kernel
theorem dL_law_533 : decode cL_law 533 = .ok (.iconst 0, 1) := by decide +kernel
theorem dL_law_534 : decode cL_law 534 = .ok (.ireturn, 1) := by decide +kernel
theorem dL_law_535 : decode cL_law 535 = .ok (.goto 876, 3) := by decide +kernel
theorem dL_law_538 : decode cL_law 538 = .ok (.aload_n 1, 1) := by decide +kernel
theorem dL_law_539 : decode cL_law 539 = .ok (.aload_n 0, 1) := by decide +kernel
theorem dL_law_540 : decode cL_law 540 = .ok (.iload 4, 2) := by decide +kernel
theorem dL_law_542 : decode cL_law 542 = .ok (.iconst 1, 1) := by decide +kernel
theorem dL_law_543 : decode cL_law 543 = .ok (.iadd, 1) := by decide +kernel
theorem dL_law_544 : decode cL_law 544 = .ok (.iaload, 1) := by decide +kernel
theorem dL_law_545 : decode cL_law 545 = .ok (.aload_n 3, 1) := by decide +kernel
theorem dL_law_546 : decode cL_law 546 = .ok (.invokestatic 138, 3) := by decide +kernel
theorem dL_law_549 : decode cL_law 549 = .ok (.istore 5, 2) := by decide +kernel
theorem dL_law_551 : decode cL_law 551 = .ok (.aload_n 2, 1) := by decide +kernel
theorem dL_law_552 : decode cL_law 552 = .ok (.aload_n 0, 1) := by decide +kernel
theorem dL_law_553 : decode cL_law 553 = .ok (.iload 4, 2) := by decide +kernel
theorem dL_law_555 : decode cL_law 555 = .ok (.iconst 1, 1) := by decide +kernel
theorem dL_law_556 : decode cL_law 556 = .ok (.iadd, 1) := by decide +kernel
theorem dL_law_557 : decode cL_law 557 = .ok (.iaload, 1) := by decide +kernel
theorem dL_law_558 : decode cL_law 558 = .ok (.invokevirtual 140, 3) := by decide +kernel
theorem dL_law_561 : decode cL_law 561 = .ok (.istore 6, 2) := by decide +kernel
theorem dL_law_563 : decode cL_law 563 = .ok (.aload_n 2, 1) := by decide +kernel
theorem dL_law_564 : decode cL_law 564 = .ok (.invokevirtual 100, 3) := by decide +kernel
theorem dL_law_567 : decode cL_law 567 = .ok (.iload 5, 2) := by decide +kernel
theorem dL_law_569 : decode cL_law 569 = .ok (.if_icmp .eq 5, 3) := by decide +kernel
theorem dL_law_572 : decode cL_law 572 = .ok (.iconst 0, 1) := by decide +kernel
theorem dL_law_573 : decode cL_law 573 = .ok (.ireturn, 1) := by decide +kernel
theorem dL_law_574 : decode cL_law 574 = .ok (.iload 5, 2) := by decide +kernel
theorem dL_law_576 : decode cL_law 576 = .ok (.ifCond .ne 15, 3) := by decide +kernel
theorem dL_law_579 : decode cL_law 579 = .ok (.aload_n 3, 1) := by decide +kernel
theorem dL_law_580 : decode cL_law 580 = .ok (.iconst 0, 1) := by decide +kernel
theorem dL_law_581 : decode cL_law 581 = .ok (.laload, 1) := by decide +kernel
theorem dL_law_582 : decode cL_law 582 = .ok (.iload 6, 2) := by decide +kernel
theorem dL_law_584 : decode cL_law 584 = .ok (.i2l, 1) := by decide +kernel
theorem dL_law_585 : decode cL_law 585 = .ok (.lcmp, 1) := by decide +kernel
theorem dL_law_586 : decode cL_law 586 = .ok (.ifCond .eq 5, 3) := by decide +kernel
theorem dL_law_589 : decode cL_law 589 = .ok (.iconst 0, 1) := by decide +kernel
theorem dL_law_590 : decode cL_law 590 = .ok (.ireturn, 1) := by decide +kernel
theorem dL_law_591 : decode cL_law 591 = .ok (.goto 820, 3) := by decide +kernel
theorem dL_law_594 : decode cL_law 594 = .ok (.aload_n 1, 1) := by decide +kernel
theorem dL_law_595 : decode cL_law 595 = .ok (.aload_n 3, 1) := by decide +kernel
theorem dL_law_596 : decode cL_law 596 = .ok (.invokestatic 141, 3) := by decide +kernel
theorem dL_law_599 : decode cL_law 599 = .ok (.istore 5, 2) := by decide +kernel
theorem dL_law_601 : decode cL_law 601 = .ok (.aload_n 2, 1) := by decide +kernel
theorem dL_law_602 : decode cL_law 602 = .ok (.invokevirtual 143, 3) := by decide +kernel
theorem dL_law_605 : decode cL_law 605 = .ok (.istore 6, 2) := by decide +kernel
theorem dL_law_607 : decode cL_law 607 = .ok (.aload_n 2, 1) := by decide +kernel
theorem dL_law_608 : decode cL_law 608 = .ok (.invokevirtual 100, 3) := by decide +kernel
theorem dL_law_611 : decode cL_law 611 = .ok (.iload 5, 2) := by decide +kernel
theorem dL_law_613 : decode cL_law 613 = .ok (.if_icmp .eq 5, 3) := by decide +kernel
theorem dL_law_616 : decode cL_law 616 = .ok (.iconst 0, 1) := by decide +kernel
theorem dL_law_617 : decode cL_law 617 = .ok (.ireturn, 1) := by decide +kernel
theorem dL_law_618 : decode cL_law 618 = .ok (.iload 5, 2) := by decide +kernel
theorem dL_law_620 : decode cL_law 620 = .ok (.ifCond .ne 15, 3) := by decide +kernel
theorem dL_law_623 : decode cL_law 623 = .ok (.aload_n 3, 1) := by decide +kernel
theorem dL_law_624 : decode cL_law 624 = .ok (.iconst 0, 1) := by decide +kernel
theorem dL_law_625 : decode cL_law 625 = .ok (.laload, 1) := by decide +kernel
theorem dL_law_626 : decode cL_law 626 = .ok (.iload 6, 2) := by decide +kernel
theorem dL_law_628 : decode cL_law 628 = .ok (.i2l, 1) := by decide +kernel
theorem dL_law_629 : decode cL_law 629 = .ok (.lcmp, 1) := by decide +kernel
theorem dL_law_630 : decode cL_law 630 = .ok (.ifCond .eq 5, 3) := by decide +kernel
theorem dL_law_633 : decode cL_law 633 = .ok (.iconst 0, 1) := by decide +kernel
theorem dL_law_634 : decode cL_law 634 = .ok (.ireturn, 1) := by decide +kernel
theorem dL_law_635 : decode cL_law 635 = .ok (.goto 776, 3) := by decide +kernel
theorem dL_law_638 : decode cL_law 638 = .ok (.aload_n 1, 1) := by decide +kernel
theorem dL_law_639 : decode cL_law 639 = .ok (.aload_n 3, 1) := by decide +kernel
theorem dL_law_640 : decode cL_law 640 = .ok (.invokestatic 144, 3) := by decide +kernel
theorem dL_law_643 : decode cL_law 643 = .ok (.istore 5, 2) := by decide +kernel
theorem dL_law_645 : decode cL_law 645 = .ok (.aload_n 2, 1) := by decide +kernel
theorem dL_law_646 : decode cL_law 646 = .ok (.invokevirtual 146, 3) := by decide +kernel
theorem dL_law_649 : decode cL_law 649 = .ok (.istore 6, 2) := by decide +kernel
theorem dL_law_651 : decode cL_law 651 = .ok (.aload_n 2, 1) := by decide +kernel
theorem dL_law_652 : decode cL_law 652 = .ok (.invokevirtual 100, 3) := by decide +kernel
theorem dL_law_655 : decode cL_law 655 = .ok (.iload 5, 2) := by decide +kernel
theorem dL_law_657 : decode cL_law 657 = .ok (.if_icmp .eq 5, 3) := by decide +kernel
theorem dL_law_660 : decode cL_law 660 = .ok (.iconst 0, 1) := by decide +kernel
theorem dL_law_661 : decode cL_law 661 = .ok (.ireturn, 1) := by decide +kernel
theorem dL_law_662 : decode cL_law 662 = .ok (.iload 5, 2) := by decide +kernel
theorem dL_law_664 : decode cL_law 664 = .ok (.ifCond .ne 15, 3) := by decide +kernel
theorem dL_law_667 : decode cL_law 667 = .ok (.aload_n 3, 1) := by decide +kernel
theorem dL_law_668 : decode cL_law 668 = .ok (.iconst 0, 1) := by decide +kernel
theorem dL_law_669 : decode cL_law 669 = .ok (.laload, 1) := by decide +kernel
theorem dL_law_670 : decode cL_law 670 = .ok (.iload 6, 2) := by decide +kernel
theorem dL_law_672 : decode cL_law 672 = .ok (.i2l, 1) := by decide +kernel
theorem dL_law_673 : decode cL_law 673 = .ok (.lcmp, 1) := by decide +kernel
theorem dL_law_674 : decode cL_law 674 = .ok (.ifCond .eq 5, 3) := by decide +kernel
theorem dL_law_677 : decode cL_law 677 = .ok (.iconst 0, 1) := by decide +kernel
theorem dL_law_678 : decode cL_law 678 = .ok (.ireturn, 1) := by decide +kernel
theorem dL_law_679 : decode cL_law 679 = .ok (.goto 732, 3) := by decide +kernel
theorem dL_law_682 : decode cL_law 682 = .ok (.aload_n 1, 1) := by decide +kernel
theorem dL_law_683 : decode cL_law 683 = .ok (.aload_n 0, 1) := by decide +kernel
theorem dL_law_684 : decode cL_law 684 = .ok (.iload 4, 2) := by decide +kernel
theorem dL_law_686 : decode cL_law 686 = .ok (.iconst 1, 1) := by decide +kernel
theorem dL_law_687 : decode cL_law 687 = .ok (.iadd, 1) := by decide +kernel
theorem dL_law_688 : decode cL_law 688 = .ok (.iaload, 1) := by decide +kernel
theorem dL_law_689 : decode cL_law 689 = .ok (.aload_n 3, 1) := by decide +kernel
theorem dL_law_690 : decode cL_law 690 = .ok (.invokestatic 147, 3) := by decide +kernel
theorem dL_law_693 : decode cL_law 693 = .ok (.istore 5, 2) := by decide +kernel
theorem dL_law_695 : decode cL_law 695 = .ok (.aload_n 2, 1) := by decide +kernel
theorem dL_law_696 : decode cL_law 696 = .ok (.aload_n 0, 1) := by decide +kernel
theorem dL_law_697 : decode cL_law 697 = .ok (.iload 4, 2) := by decide +kernel
theorem dL_law_699 : decode cL_law 699 = .ok (.iconst 1, 1) := by decide +kernel
theorem dL_law_700 : decode cL_law 700 = .ok (.iadd, 1) := by decide +kernel
theorem dL_law_701 : decode cL_law 701 = .ok (.iaload, 1) := by decide +kernel
theorem dL_law_702 : decode cL_law 702 = .ok (.invokevirtual 149, 3) := by decide +kernel
theorem dL_law_705 : decode cL_law 705 = .ok (.istore 6, 2) := by decide +kernel
theorem dL_law_707 : decode cL_law 707 = .ok (.aload_n 2, 1) := by decide +kernel
theorem dL_law_708 : decode cL_law 708 = .ok (.invokevirtual 100, 3) := by decide +kernel
theorem dL_law_711 : decode cL_law 711 = .ok (.iload 5, 2) := by decide +kernel
theorem dL_law_713 : decode cL_law 713 = .ok (.if_icmp .eq 5, 3) := by decide +kernel
theorem dL_law_716 : decode cL_law 716 = .ok (.iconst 0, 1) := by decide +kernel
theorem dL_law_717 : decode cL_law 717 = .ok (.ireturn, 1) := by decide +kernel
theorem dL_law_718 : decode cL_law 718 = .ok (.iload 5, 2) := by decide +kernel
theorem dL_law_720 : decode cL_law 720 = .ok (.ifCond .ne 15, 3) := by decide +kernel
theorem dL_law_723 : decode cL_law 723 = .ok (.aload_n 3, 1) := by decide +kernel
theorem dL_law_724 : decode cL_law 724 = .ok (.iconst 0, 1) := by decide +kernel
theorem dL_law_725 : decode cL_law 725 = .ok (.laload, 1) := by decide +kernel
theorem dL_law_726 : decode cL_law 726 = .ok (.iload 6, 2) := by decide +kernel
theorem dL_law_728 : decode cL_law 728 = .ok (.i2l, 1) := by decide +kernel
theorem dL_law_729 : decode cL_law 729 = .ok (.lcmp, 1) := by decide +kernel
theorem dL_law_730 : decode cL_law 730 = .ok (.ifCond .eq 5, 3) := by decide +kernel
theorem dL_law_733 : decode cL_law 733 = .ok (.iconst 0, 1) := by decide +kernel
theorem dL_law_734 : decode cL_law 734 = .ok (.ireturn, 1) := by decide +kernel
theorem dL_law_735 : decode cL_law 735 = .ok (.goto 676, 3) := by decide +kernel
theorem dL_law_738 : decode cL_law 738 = .ok (.aload_n 1, 1) := by decide +kernel
theorem dL_law_739 : decode cL_law 739 = .ok (.aload_n 0, 1) := by decide +kernel
theorem dL_law_740 : decode cL_law 740 = .ok (.iload 4, 2) := by decide +kernel
theorem dL_law_742 : decode cL_law 742 = .ok (.iconst 1, 1) := by decide +kernel
theorem dL_law_743 : decode cL_law 743 = .ok (.iadd, 1) := by decide +kernel
theorem dL_law_744 : decode cL_law 744 = .ok (.iaload, 1) := by decide +kernel
theorem dL_law_745 : decode cL_law 745 = .ok (.aload_n 3, 1) := by decide +kernel
theorem dL_law_746 : decode cL_law 746 = .ok (.invokestatic 150, 3) := by decide +kernel
theorem dL_law_749 : decode cL_law 749 = .ok (.istore 5, 2) := by decide +kernel
theorem dL_law_751 : decode cL_law 751 = .ok (.aload_n 2, 1) := by decide +kernel
theorem dL_law_752 : decode cL_law 752 = .ok (.aload_n 0, 1) := by decide +kernel
theorem dL_law_753 : decode cL_law 753 = .ok (.iload 4, 2) := by decide +kernel
theorem dL_law_755 : decode cL_law 755 = .ok (.iconst 1, 1) := by decide +kernel
theorem dL_law_756 : decode cL_law 756 = .ok (.iadd, 1) := by decide +kernel
theorem dL_law_757 : decode cL_law 757 = .ok (.iaload, 1) := by decide +kernel
theorem dL_law_758 : decode cL_law 758 = .ok (.invokevirtual 152, 3) := by decide +kernel
theorem dL_law_761 : decode cL_law 761 = .ok (.istore 6, 2) := by decide +kernel
theorem dL_law_763 : decode cL_law 763 = .ok (.aload_n 2, 1) := by decide +kernel
theorem dL_law_764 : decode cL_law 764 = .ok (.invokevirtual 100, 3) := by decide +kernel
theorem dL_law_767 : decode cL_law 767 = .ok (.iload 5, 2) := by decide +kernel
theorem dL_law_769 : decode cL_law 769 = .ok (.if_icmp .eq 5, 3) := by decide +kernel
theorem dL_law_772 : decode cL_law 772 = .ok (.iconst 0, 1) := by decide +kernel
theorem dL_law_773 : decode cL_law 773 = .ok (.ireturn, 1) := by decide +kernel
theorem dL_law_774 : decode cL_law 774 = .ok (.iload 5, 2) := by decide +kernel
theorem dL_law_776 : decode cL_law 776 = .ok (.ifCond .ne 15, 3) := by decide +kernel
theorem dL_law_779 : decode cL_law 779 = .ok (.aload_n 3, 1) := by decide +kernel
theorem dL_law_780 : decode cL_law 780 = .ok (.iconst 0, 1) := by decide +kernel
theorem dL_law_781 : decode cL_law 781 = .ok (.laload, 1) := by decide +kernel
theorem dL_law_782 : decode cL_law 782 = .ok (.iload 6, 2) := by decide +kernel
theorem dL_law_784 : decode cL_law 784 = .ok (.i2l, 1) := by decide +kernel
theorem dL_law_785 : decode cL_law 785 = .ok (.lcmp, 1) := by decide +kernel
theorem dL_law_786 : decode cL_law 786 = .ok (.ifCond .eq 5, 3) := by decide +kernel
theorem dL_law_789 : decode cL_law 789 = .ok (.iconst 0, 1) := by decide +kernel
theorem dL_law_790 : decode cL_law 790 = .ok (.ireturn, 1) := by decide +kernel
theorem dL_law_791 : decode cL_law 791 = .ok (.goto 620, 3) := by decide +kernel
theorem dL_law_794 : decode cL_law 794 = .ok (.aload_n 1, 1) := by decide +kernel
theorem dL_law_795 : decode cL_law 795 = .ok (.aload_n 0, 1) := by decide +kernel
theorem dL_law_796 : decode cL_law 796 = .ok (.iload 4, 2) := by decide +kernel
theorem dL_law_798 : decode cL_law 798 = .ok (.iconst 1, 1) := by decide +kernel
theorem dL_law_799 : decode cL_law 799 = .ok (.iadd, 1) := by decide +kernel
theorem dL_law_800 : decode cL_law 800 = .ok (.iaload, 1) := by decide +kernel
theorem dL_law_801 : decode cL_law 801 = .ok (.aload_n 0, 1) := by decide +kernel
theorem dL_law_802 : decode cL_law 802 = .ok (.iload 4, 2) := by decide +kernel
theorem dL_law_804 : decode cL_law 804 = .ok (.iconst 2, 1) := by decide +kernel
theorem dL_law_805 : decode cL_law 805 = .ok (.iadd, 1) := by decide +kernel
theorem dL_law_806 : decode cL_law 806 = .ok (.iaload, 1) := by decide +kernel
theorem dL_law_807 : decode cL_law 807 = .ok (.aload_n 3, 1) := by decide +kernel
theorem dL_law_808 : decode cL_law 808 = .ok (.invokestatic 153, 3) := by decide +kernel
theorem dL_law_811 : decode cL_law 811 = .ok (.istore 5, 2) := by decide +kernel
theorem dL_law_813 : decode cL_law 813 = .ok (.aload_n 2, 1) := by decide +kernel
theorem dL_law_814 : decode cL_law 814 = .ok (.aload_n 0, 1) := by decide +kernel
theorem dL_law_815 : decode cL_law 815 = .ok (.iload 4, 2) := by decide +kernel
theorem dL_law_817 : decode cL_law 817 = .ok (.iconst 1, 1) := by decide +kernel
theorem dL_law_818 : decode cL_law 818 = .ok (.iadd, 1) := by decide +kernel
theorem dL_law_819 : decode cL_law 819 = .ok (.iaload, 1) := by decide +kernel
theorem dL_law_820 : decode cL_law 820 = .ok (.aload_n 0, 1) := by decide +kernel
theorem dL_law_821 : decode cL_law 821 = .ok (.iload 4, 2) := by decide +kernel
theorem dL_law_823 : decode cL_law 823 = .ok (.iconst 2, 1) := by decide +kernel
theorem dL_law_824 : decode cL_law 824 = .ok (.iadd, 1) := by decide +kernel
theorem dL_law_825 : decode cL_law 825 = .ok (.iaload, 1) := by decide +kernel
theorem dL_law_826 : decode cL_law 826 = .ok (.invokevirtual 156, 3) := by decide +kernel
theorem dL_law_829 : decode cL_law 829 = .ok (.istore 6, 2) := by decide +kernel
theorem dL_law_831 : decode cL_law 831 = .ok (.aload_n 2, 1) := by decide +kernel
theorem dL_law_832 : decode cL_law 832 = .ok (.invokevirtual 100, 3) := by decide +kernel
theorem dL_law_835 : decode cL_law 835 = .ok (.iload 5, 2) := by decide +kernel
theorem dL_law_837 : decode cL_law 837 = .ok (.if_icmp .eq 5, 3) := by decide +kernel
theorem dL_law_840 : decode cL_law 840 = .ok (.iconst 0, 1) := by decide +kernel
theorem dL_law_841 : decode cL_law 841 = .ok (.ireturn, 1) := by decide +kernel
theorem dL_law_842 : decode cL_law 842 = .ok (.iload 5, 2) := by decide +kernel
theorem dL_law_844 : decode cL_law 844 = .ok (.ifCond .ne 15, 3) := by decide +kernel
theorem dL_law_847 : decode cL_law 847 = .ok (.aload_n 3, 1) := by decide +kernel
theorem dL_law_848 : decode cL_law 848 = .ok (.iconst 0, 1) := by decide +kernel
theorem dL_law_849 : decode cL_law 849 = .ok (.laload, 1) := by decide +kernel
theorem dL_law_850 : decode cL_law 850 = .ok (.iload 6, 2) := by decide +kernel
theorem dL_law_852 : decode cL_law 852 = .ok (.i2l, 1) := by decide +kernel
theorem dL_law_853 : decode cL_law 853 = .ok (.lcmp, 1) := by decide +kernel
theorem dL_law_854 : decode cL_law 854 = .ok (.ifCond .eq 5, 3) := by decide +kernel
theorem dL_law_857 : decode cL_law 857 = .ok (.iconst 0, 1) := by decide +kernel
theorem dL_law_858 : decode cL_law 858 = .ok (.ireturn, 1) := by decide +kernel
theorem dL_law_859 : decode cL_law 859 = .ok (.goto 552, 3) := by decide +kernel
theorem dL_law_862 : decode cL_law 862 = .ok (.aload_n 1, 1) := by decide +kernel
theorem dL_law_863 : decode cL_law 863 = .ok (.aload_n 0, 1) := by decide +kernel
theorem dL_law_864 : decode cL_law 864 = .ok (.iload 4, 2) := by decide +kernel
theorem dL_law_866 : decode cL_law 866 = .ok (.iconst 1, 1) := by decide +kernel
theorem dL_law_867 : decode cL_law 867 = .ok (.iadd, 1) := by decide +kernel
theorem dL_law_868 : decode cL_law 868 = .ok (.iaload, 1) := by decide +kernel
theorem dL_law_869 : decode cL_law 869 = .ok (.aload_n 0, 1) := by decide +kernel
theorem dL_law_870 : decode cL_law 870 = .ok (.iload 4, 2) := by decide +kernel
theorem dL_law_872 : decode cL_law 872 = .ok (.iconst 2, 1) := by decide +kernel
theorem dL_law_873 : decode cL_law 873 = .ok (.iadd, 1) := by decide +kernel
theorem dL_law_874 : decode cL_law 874 = .ok (.iaload, 1) := by decide +kernel
theorem dL_law_875 : decode cL_law 875 = .ok (.aload_n 0, 1) := by decide +kernel
theorem dL_law_876 : decode cL_law 876 = .ok (.iload 4, 2) := by decide +kernel
theorem dL_law_878 : decode cL_law 878 = .ok (.iconst 3, 1) := by decide +kernel
theorem dL_law_879 : decode cL_law 879 = .ok (.iadd, 1) := by decide +kernel
theorem dL_law_880 : decode cL_law 880 = .ok (.iaload, 1) := by decide +kernel
theorem dL_law_881 : decode cL_law 881 = .ok (.aload_n 3, 1) := by decide +kernel
theorem dL_law_882 : decode cL_law 882 = .ok (.invokestatic 157, 3) := by decide +kernel
theorem dL_law_885 : decode cL_law 885 = .ok (.istore 5, 2) := by decide +kernel
theorem dL_law_887 : decode cL_law 887 = .ok (.aload_n 2, 1) := by decide +kernel
theorem dL_law_888 : decode cL_law 888 = .ok (.aload_n 0, 1) := by decide +kernel
theorem dL_law_889 : decode cL_law 889 = .ok (.iload 4, 2) := by decide +kernel
theorem dL_law_891 : decode cL_law 891 = .ok (.iconst 1, 1) := by decide +kernel
theorem dL_law_892 : decode cL_law 892 = .ok (.iadd, 1) := by decide +kernel
theorem dL_law_893 : decode cL_law 893 = .ok (.iaload, 1) := by decide +kernel
theorem dL_law_894 : decode cL_law 894 = .ok (.aload_n 0, 1) := by decide +kernel
theorem dL_law_895 : decode cL_law 895 = .ok (.iload 4, 2) := by decide +kernel
theorem dL_law_897 : decode cL_law 897 = .ok (.iconst 2, 1) := by decide +kernel
theorem dL_law_898 : decode cL_law 898 = .ok (.iadd, 1) := by decide +kernel
theorem dL_law_899 : decode cL_law 899 = .ok (.iaload, 1) := by decide +kernel
theorem dL_law_900 : decode cL_law 900 = .ok (.aload_n 0, 1) := by decide +kernel
theorem dL_law_901 : decode cL_law 901 = .ok (.iload 4, 2) := by decide +kernel
theorem dL_law_903 : decode cL_law 903 = .ok (.iconst 3, 1) := by decide +kernel
theorem dL_law_904 : decode cL_law 904 = .ok (.iadd, 1) := by decide +kernel
theorem dL_law_905 : decode cL_law 905 = .ok (.iaload, 1) := by decide +kernel
theorem dL_law_906 : decode cL_law 906 = .ok (.invokevirtual 160, 3) := by decide +kernel
theorem dL_law_909 : decode cL_law 909 = .ok (.istore 6, 2) := by decide +kernel
theorem dL_law_911 : decode cL_law 911 = .ok (.aload_n 2, 1) := by decide +kernel
theorem dL_law_912 : decode cL_law 912 = .ok (.invokevirtual 100, 3) := by decide +kernel
theorem dL_law_915 : decode cL_law 915 = .ok (.iload 5, 2) := by decide +kernel
theorem dL_law_917 : decode cL_law 917 = .ok (.if_icmp .eq 5, 3) := by decide +kernel
theorem dL_law_920 : decode cL_law 920 = .ok (.iconst 0, 1) := by decide +kernel
theorem dL_law_921 : decode cL_law 921 = .ok (.ireturn, 1) := by decide +kernel
theorem dL_law_922 : decode cL_law 922 = .ok (.iload 5, 2) := by decide +kernel
theorem dL_law_924 : decode cL_law 924 = .ok (.ifCond .ne 15, 3) := by decide +kernel
theorem dL_law_927 : decode cL_law 927 = .ok (.aload_n 3, 1) := by decide +kernel
theorem dL_law_928 : decode cL_law 928 = .ok (.iconst 0, 1) := by decide +kernel
theorem dL_law_929 : decode cL_law 929 = .ok (.laload, 1) := by decide +kernel
theorem dL_law_930 : decode cL_law 930 = .ok (.iload 6, 2) := by decide +kernel
theorem dL_law_932 : decode cL_law 932 = .ok (.i2l, 1) := by decide +kernel
theorem dL_law_933 : decode cL_law 933 = .ok (.lcmp, 1) := by decide +kernel
theorem dL_law_934 : decode cL_law 934 = .ok (.ifCond .eq 5, 3) := by decide +kernel
theorem dL_law_937 : decode cL_law 937 = .ok (.iconst 0, 1) := by decide +kernel
theorem dL_law_938 : decode cL_law 938 = .ok (.ireturn, 1) := by decide +kernel
theorem dL_law_939 : decode cL_law 939 = .ok (.goto 472, 3) := by decide +kernel
theorem dL_law_942 : decode cL_law 942 = .ok (.aload_n 1, 1) := by decide +kernel
theorem dL_law_943 : decode cL_law 943 = .ok (.aload_n 0, 1) := by decide +kernel
theorem dL_law_944 : decode cL_law 944 = .ok (.iload 4, 2) := by decide +kernel
theorem dL_law_946 : decode cL_law 946 = .ok (.iconst 1, 1) := by decide +kernel
theorem dL_law_947 : decode cL_law 947 = .ok (.iadd, 1) := by decide +kernel
theorem dL_law_948 : decode cL_law 948 = .ok (.iaload, 1) := by decide +kernel
theorem dL_law_949 : decode cL_law 949 = .ok (.aload_n 3, 1) := by decide +kernel
theorem dL_law_950 : decode cL_law 950 = .ok (.invokestatic 161, 3) := by decide +kernel
theorem dL_law_953 : decode cL_law 953 = .ok (.istore 5, 2) := by decide +kernel
theorem dL_law_955 : decode cL_law 955 = .ok (.aload_n 2, 1) := by decide +kernel
theorem dL_law_956 : decode cL_law 956 = .ok (.aload_n 0, 1) := by decide +kernel
theorem dL_law_957 : decode cL_law 957 = .ok (.iload 4, 2) := by decide +kernel
theorem dL_law_959 : decode cL_law 959 = .ok (.iconst 1, 1) := by decide +kernel
theorem dL_law_960 : decode cL_law 960 = .ok (.iadd, 1) := by decide +kernel
theorem dL_law_961 : decode cL_law 961 = .ok (.iaload, 1) := by decide +kernel
theorem dL_law_962 : decode cL_law 962 = .ok (.invokevirtual 163, 3) := by decide +kernel
theorem dL_law_965 : decode cL_law 965 = .ok (.istore 6, 2) := by decide +kernel
theorem dL_law_967 : decode cL_law 967 = .ok (.aload_n 2, 1) := by decide +kernel
theorem dL_law_968 : decode cL_law 968 = .ok (.invokevirtual 100, 3) := by decide +kernel
theorem dL_law_971 : decode cL_law 971 = .ok (.iload 5, 2) := by decide +kernel
theorem dL_law_973 : decode cL_law 973 = .ok (.if_icmp .eq 5, 3) := by decide +kernel
theorem dL_law_976 : decode cL_law 976 = .ok (.iconst 0, 1) := by decide +kernel
theorem dL_law_977 : decode cL_law 977 = .ok (.ireturn, 1) := by decide +kernel
theorem dL_law_978 : decode cL_law 978 = .ok (.iload 5, 2) := by decide +kernel
theorem dL_law_980 : decode cL_law 980 = .ok (.ifCond .ne 15, 3) := by decide +kernel
theorem dL_law_983 : decode cL_law 983 = .ok (.aload_n 3, 1) := by decide +kernel
theorem dL_law_984 : decode cL_law 984 = .ok (.iconst 0, 1) := by decide +kernel
theorem dL_law_985 : decode cL_law 985 = .ok (.laload, 1) := by decide +kernel
theorem dL_law_986 : decode cL_law 986 = .ok (.iload 6, 2) := by decide +kernel
theorem dL_law_988 : decode cL_law 988 = .ok (.i2l, 1) := by decide +kernel
theorem dL_law_989 : decode cL_law 989 = .ok (.lcmp, 1) := by decide +kernel
theorem dL_law_990 : decode cL_law 990 = .ok (.ifCond .eq 5, 3) := by decide +kernel
theorem dL_law_993 : decode cL_law 993 = .ok (.iconst 0, 1) := by decide +kernel
theorem dL_law_994 : decode cL_law 994 = .ok (.ireturn, 1) := by decide +kernel
theorem dL_law_995 : decode cL_law 995 = .ok (.goto 416, 3) := by decide +kernel
theorem dL_law_998 : decode cL_law 998 = .ok (.aload_n 1, 1) := by decide +kernel
theorem dL_law_999 : decode cL_law 999 = .ok (.aload_n 0, 1) := by decide +kernel
theorem dL_law_1000 : decode cL_law 1000 = .ok (.iload 4, 2) := by decide +kernel
theorem dL_law_1002 : decode cL_law 1002 = .ok (.iconst 1, 1) := by decide +kernel
theorem dL_law_1003 : decode cL_law 1003 = .ok (.iadd, 1) := by decide +kernel
theorem dL_law_1004 : decode cL_law 1004 = .ok (.iaload, 1) := by decide +kernel
theorem dL_law_1005 : decode cL_law 1005 = .ok (.aload_n 3, 1) := by decide +kernel
theorem dL_law_1006 : decode cL_law 1006 = .ok (.invokestatic 164, 3) := by decide +kernel
theorem dL_law_1009 : decode cL_law 1009 = .ok (.istore 5, 2) := by decide +kernel
theorem dL_law_1011 : decode cL_law 1011 = .ok (.aload_n 2, 1) := by decide +kernel
theorem dL_law_1012 : decode cL_law 1012 = .ok (.aload_n 0, 1) := by decide +kernel
theorem dL_law_1013 : decode cL_law 1013 = .ok (.iload 4, 2) := by decide +kernel
theorem dL_law_1015 : decode cL_law 1015 = .ok (.iconst 1, 1) := by decide +kernel
theorem dL_law_1016 : decode cL_law 1016 = .ok (.iadd, 1) := by decide +kernel
theorem dL_law_1017 : decode cL_law 1017 = .ok (.iaload, 1) := by decide +kernel
theorem dL_law_1018 : decode cL_law 1018 = .ok (.invokevirtual 166, 3) := by decide +kernel
theorem dL_law_1021 : decode cL_law 1021 = .ok (.istore 6, 2) := by decide +kernel
theorem dL_law_1023 : decode cL_law 1023 = .ok (.aload_n 2, 1) := by decide +kernel
theorem dL_law_1024 : decode cL_law 1024 = .ok (.invokevirtual 100, 3) := by decide +kernel
theorem dL_law_1027 : decode cL_law 1027 = .ok (.iload 5, 2) := by decide +kernel
theorem dL_law_1029 : decode cL_law 1029 = .ok (.if_icmp .eq 5, 3) := by decide +kernel
theorem dL_law_1032 : decode cL_law 1032 = .ok (.iconst 0, 1) := by decide +kernel
theorem dL_law_1033 : decode cL_law 1033 = .ok (.ireturn, 1) := by decide +kernel
theorem dL_law_1034 : decode cL_law 1034 = .ok (.iload 5, 2) := by decide +kernel
theorem dL_law_1036 : decode cL_law 1036 = .ok (.ifCond .ne 15, 3) := by decide +kernel
theorem dL_law_1039 : decode cL_law 1039 = .ok (.aload_n 3, 1) := by decide +kernel
theorem dL_law_1040 : decode cL_law 1040 = .ok (.iconst 0, 1) := by decide +kernel
theorem dL_law_1041 : decode cL_law 1041 = .ok (.laload, 1) := by decide +kernel
theorem dL_law_1042 : decode cL_law 1042 = .ok (.iload 6, 2) := by decide +kernel
theorem dL_law_1044 : decode cL_law 1044 = .ok (.i2l, 1) := by decide +kernel
theorem dL_law_1045 : decode cL_law 1045 = .ok (.lcmp, 1) := by decide +kernel
theorem dL_law_1046 : decode cL_law 1046 = .ok (.ifCond .eq 5, 3) := by decide +kernel
theorem dL_law_1049 : decode cL_law 1049 = .ok (.iconst 0, 1) := by decide +kernel
theorem dL_law_1050 : decode cL_law 1050 = .ok (.ireturn, 1) := by decide +kernel
theorem dL_law_1051 : decode cL_law 1051 = .ok (.goto 360, 3) := by decide +kernel
theorem dL_law_1054 : decode cL_law 1054 = .ok (.aload_n 1, 1) := by decide +kernel
theorem dL_law_1055 : decode cL_law 1055 = .ok (.aload_n 0, 1) := by decide +kernel
theorem dL_law_1056 : decode cL_law 1056 = .ok (.iload 4, 2) := by decide +kernel
theorem dL_law_1058 : decode cL_law 1058 = .ok (.iconst 1, 1) := by decide +kernel
theorem dL_law_1059 : decode cL_law 1059 = .ok (.iadd, 1) := by decide +kernel
theorem dL_law_1060 : decode cL_law 1060 = .ok (.iaload, 1) := by decide +kernel
theorem dL_law_1061 : decode cL_law 1061 = .ok (.aload_n 0, 1) := by decide +kernel
theorem dL_law_1062 : decode cL_law 1062 = .ok (.iload 4, 2) := by decide +kernel
theorem dL_law_1064 : decode cL_law 1064 = .ok (.iconst 2, 1) := by decide +kernel
theorem dL_law_1065 : decode cL_law 1065 = .ok (.iadd, 1) := by decide +kernel
theorem dL_law_1066 : decode cL_law 1066 = .ok (.iaload, 1) := by decide +kernel
theorem dL_law_1067 : decode cL_law 1067 = .ok (.i2c, 1) := by decide +kernel
theorem dL_law_1068 : decode cL_law 1068 = .ok (.aload_n 3, 1) := by decide +kernel
theorem dL_law_1069 : decode cL_law 1069 = .ok (.invokestatic 167, 3) := by decide +kernel
theorem dL_law_1072 : decode cL_law 1072 = .ok (.istore 5, 2) := by decide +kernel
theorem dL_law_1074 : decode cL_law 1074 = .ok (.aload_n 2, 1) := by decide +kernel
theorem dL_law_1075 : decode cL_law 1075 = .ok (.aload_n 0, 1) := by decide +kernel
theorem dL_law_1076 : decode cL_law 1076 = .ok (.iload 4, 2) := by decide +kernel
theorem dL_law_1078 : decode cL_law 1078 = .ok (.iconst 1, 1) := by decide +kernel
theorem dL_law_1079 : decode cL_law 1079 = .ok (.iadd, 1) := by decide +kernel
theorem dL_law_1080 : decode cL_law 1080 = .ok (.iaload, 1) := by decide +kernel
theorem dL_law_1081 : decode cL_law 1081 = .ok (.aload_n 0, 1) := by decide +kernel
theorem dL_law_1082 : decode cL_law 1082 = .ok (.iload 4, 2) := by decide +kernel
theorem dL_law_1084 : decode cL_law 1084 = .ok (.iconst 2, 1) := by decide +kernel
theorem dL_law_1085 : decode cL_law 1085 = .ok (.iadd, 1) := by decide +kernel
theorem dL_law_1086 : decode cL_law 1086 = .ok (.iaload, 1) := by decide +kernel
theorem dL_law_1087 : decode cL_law 1087 = .ok (.i2c, 1) := by decide +kernel
theorem dL_law_1088 : decode cL_law 1088 = .ok (.invokevirtual 170, 3) := by decide +kernel
theorem dL_law_1091 : decode cL_law 1091 = .ok (.istore 6, 2) := by decide +kernel
theorem dL_law_1093 : decode cL_law 1093 = .ok (.aload_n 2, 1) := by decide +kernel
theorem dL_law_1094 : decode cL_law 1094 = .ok (.invokevirtual 100, 3) := by decide +kernel
theorem dL_law_1097 : decode cL_law 1097 = .ok (.iload 5, 2) := by decide +kernel
theorem dL_law_1099 : decode cL_law 1099 = .ok (.if_icmp .eq 5, 3) := by decide +kernel
theorem dL_law_1102 : decode cL_law 1102 = .ok (.iconst 0, 1) := by decide +kernel
theorem dL_law_1103 : decode cL_law 1103 = .ok (.ireturn, 1) := by decide +kernel
theorem dL_law_1104 : decode cL_law 1104 = .ok (.iload 5, 2) := by decide +kernel
theorem dL_law_1106 : decode cL_law 1106 = .ok (.ifCond .ne 15, 3) := by decide +kernel
theorem dL_law_1109 : decode cL_law 1109 = .ok (.aload_n 3, 1) := by decide +kernel
theorem dL_law_1110 : decode cL_law 1110 = .ok (.iconst 0, 1) := by decide +kernel
theorem dL_law_1111 : decode cL_law 1111 = .ok (.laload, 1) := by decide +kernel
theorem dL_law_1112 : decode cL_law 1112 = .ok (.iload 6, 2) := by decide +kernel
theorem dL_law_1114 : decode cL_law 1114 = .ok (.i2l, 1) := by decide +kernel
theorem dL_law_1115 : decode cL_law 1115 = .ok (.lcmp, 1) := by decide +kernel
theorem dL_law_1116 : decode cL_law 1116 = .ok (.ifCond .eq 5, 3) := by decide +kernel
theorem dL_law_1119 : decode cL_law 1119 = .ok (.iconst 0, 1) := by decide +kernel
theorem dL_law_1120 : decode cL_law 1120 = .ok (.ireturn, 1) := by decide +kernel
theorem dL_law_1121 : decode cL_law 1121 = .ok (.goto 290, 3) := by decide +kernel
theorem dL_law_1124 : decode cL_law 1124 = .ok (.aload_n 1, 1) := by decide +kernel
theorem dL_law_1125 : decode cL_law 1125 = .ok (.aload_n 0, 1) := by decide +kernel
theorem dL_law_1126 : decode cL_law 1126 = .ok (.iload 4, 2) := by decide +kernel
theorem dL_law_1128 : decode cL_law 1128 = .ok (.iconst 1, 1) := by decide +kernel
theorem dL_law_1129 : decode cL_law 1129 = .ok (.iadd, 1) := by decide +kernel
theorem dL_law_1130 : decode cL_law 1130 = .ok (.iaload, 1) := by decide +kernel
theorem dL_law_1131 : decode cL_law 1131 = .ok (.aload_n 0, 1) := by decide +kernel
theorem dL_law_1132 : decode cL_law 1132 = .ok (.iload 4, 2) := by decide +kernel
theorem dL_law_1134 : decode cL_law 1134 = .ok (.iconst 2, 1) := by decide +kernel
theorem dL_law_1135 : decode cL_law 1135 = .ok (.iadd, 1) := by decide +kernel
theorem dL_law_1136 : decode cL_law 1136 = .ok (.iaload, 1) := by decide +kernel
theorem dL_law_1137 : decode cL_law 1137 = .ok (.aload_n 3, 1) := by decide +kernel
theorem dL_law_1138 : decode cL_law 1138 = .ok (.invokestatic 171, 3) := by decide +kernel
theorem dL_law_1141 : decode cL_law 1141 = .ok (.istore 5, 2) := by decide +kernel
theorem dL_law_1143 : decode cL_law 1143 = .ok (.aload_n 2, 1) := by decide +kernel
theorem dL_law_1144 : decode cL_law 1144 = .ok (.aload_n 0, 1) := by decide +kernel
theorem dL_law_1145 : decode cL_law 1145 = .ok (.iload 4, 2) := by decide +kernel
theorem dL_law_1147 : decode cL_law 1147 = .ok (.iconst 1, 1) := by decide +kernel
theorem dL_law_1148 : decode cL_law 1148 = .ok (.iadd, 1) := by decide +kernel
theorem dL_law_1149 : decode cL_law 1149 = .ok (.iaload, 1) := by decide +kernel
theorem dL_law_1150 : decode cL_law 1150 = .ok (.aload_n 0, 1) := by decide +kernel
theorem dL_law_1151 : decode cL_law 1151 = .ok (.iload 4, 2) := by decide +kernel
theorem dL_law_1153 : decode cL_law 1153 = .ok (.iconst 2, 1) := by decide +kernel
theorem dL_law_1154 : decode cL_law 1154 = .ok (.iadd, 1) := by decide +kernel
theorem dL_law_1155 : decode cL_law 1155 = .ok (.iaload, 1) := by decide +kernel
theorem dL_law_1156 : decode cL_law 1156 = .ok (.invokevirtual 173, 3) := by decide +kernel
theorem dL_law_1159 : decode cL_law 1159 = .ok (.istore 6, 2) := by decide +kernel
theorem dL_law_1161 : decode cL_law 1161 = .ok (.aload_n 2, 1) := by decide +kernel
theorem dL_law_1162 : decode cL_law 1162 = .ok (.invokevirtual 100, 3) := by decide +kernel
theorem dL_law_1165 : decode cL_law 1165 = .ok (.iload 5, 2) := by decide +kernel
theorem dL_law_1167 : decode cL_law 1167 = .ok (.if_icmp .eq 5, 3) := by decide +kernel
theorem dL_law_1170 : decode cL_law 1170 = .ok (.iconst 0, 1) := by decide +kernel
theorem dL_law_1171 : decode cL_law 1171 = .ok (.ireturn, 1) := by decide +kernel
theorem dL_law_1172 : decode cL_law 1172 = .ok (.iload 5, 2) := by decide +kernel
theorem dL_law_1174 : decode cL_law 1174 = .ok (.ifCond .ne 15, 3) := by decide +kernel
theorem dL_law_1177 : decode cL_law 1177 = .ok (.aload_n 3, 1) := by decide +kernel
theorem dL_law_1178 : decode cL_law 1178 = .ok (.iconst 0, 1) := by decide +kernel
theorem dL_law_1179 : decode cL_law 1179 = .ok (.laload, 1) := by decide +kernel
theorem dL_law_1180 : decode cL_law 1180 = .ok (.iload 6, 2) := by decide +kernel
theorem dL_law_1182 : decode cL_law 1182 = .ok (.i2l, 1) := by decide +kernel
theorem dL_law_1183 : decode cL_law 1183 = .ok (.lcmp, 1) := by decide +kernel
theorem dL_law_1184 : decode cL_law 1184 = .ok (.ifCond .eq 5, 3) := by decide +kernel
theorem dL_law_1187 : decode cL_law 1187 = .ok (.iconst 0, 1) := by decide +kernel
theorem dL_law_1188 : decode cL_law 1188 = .ok (.ireturn, 1) := by decide +kernel
theorem dL_law_1189 : decode cL_law 1189 = .ok (.goto 222, 3) := by decide +kernel
theorem dL_law_1192 : decode cL_law 1192 = .ok (.aload_n 1, 1) := by decide +kernel
theorem dL_law_1193 : decode cL_law 1193 = .ok (.aload_n 0, 1) := by decide +kernel
theorem dL_law_1194 : decode cL_law 1194 = .ok (.iload 4, 2) := by decide +kernel
theorem dL_law_1196 : decode cL_law 1196 = .ok (.iconst 1, 1) := by decide +kernel
theorem dL_law_1197 : decode cL_law 1197 = .ok (.iadd, 1) := by decide +kernel
theorem dL_law_1198 : decode cL_law 1198 = .ok (.iaload, 1) := by decide +kernel
theorem dL_law_1199 : decode cL_law 1199 = .ok (.aload_n 0, 1) := by decide +kernel
theorem dL_law_1200 : decode cL_law 1200 = .ok (.iload 4, 2) := by decide +kernel
theorem dL_law_1202 : decode cL_law 1202 = .ok (.iconst 2, 1) := by decide +kernel
theorem dL_law_1203 : decode cL_law 1203 = .ok (.iadd, 1) := by decide +kernel
theorem dL_law_1204 : decode cL_law 1204 = .ok (.iaload, 1) := by decide +kernel
theorem dL_law_1205 : decode cL_law 1205 = .ok (.aload_n 0, 1) := by decide +kernel
theorem dL_law_1206 : decode cL_law 1206 = .ok (.iload 4, 2) := by decide +kernel
theorem dL_law_1208 : decode cL_law 1208 = .ok (.iconst 3, 1) := by decide +kernel
theorem dL_law_1209 : decode cL_law 1209 = .ok (.iadd, 1) := by decide +kernel
theorem dL_law_1210 : decode cL_law 1210 = .ok (.iaload, 1) := by decide +kernel
theorem dL_law_1211 : decode cL_law 1211 = .ok (.i2c, 1) := by decide +kernel
theorem dL_law_1212 : decode cL_law 1212 = .ok (.invokestatic 174, 3) := by decide +kernel
theorem dL_law_1215 : decode cL_law 1215 = .ok (.istore 5, 2) := by decide +kernel
theorem dL_law_1217 : decode cL_law 1217 = .ok (.aload_n 2, 1) := by decide +kernel
theorem dL_law_1218 : decode cL_law 1218 = .ok (.aload_n 0, 1) := by decide +kernel
theorem dL_law_1219 : decode cL_law 1219 = .ok (.iload 4, 2) := by decide +kernel
theorem dL_law_1221 : decode cL_law 1221 = .ok (.iconst 1, 1) := by decide +kernel
theorem dL_law_1222 : decode cL_law 1222 = .ok (.iadd, 1) := by decide +kernel
theorem dL_law_1223 : decode cL_law 1223 = .ok (.iaload, 1) := by decide +kernel
theorem dL_law_1224 : decode cL_law 1224 = .ok (.aload_n 0, 1) := by decide +kernel
theorem dL_law_1225 : decode cL_law 1225 = .ok (.iload 4, 2) := by decide +kernel
theorem dL_law_1227 : decode cL_law 1227 = .ok (.iconst 2, 1) := by decide +kernel
theorem dL_law_1228 : decode cL_law 1228 = .ok (.iadd, 1) := by decide +kernel
theorem dL_law_1229 : decode cL_law 1229 = .ok (.iaload, 1) := by decide +kernel
theorem dL_law_1230 : decode cL_law 1230 = .ok (.aload_n 0, 1) := by decide +kernel
theorem dL_law_1231 : decode cL_law 1231 = .ok (.iload 4, 2) := by decide +kernel
theorem dL_law_1233 : decode cL_law 1233 = .ok (.iconst 3, 1) := by decide +kernel
theorem dL_law_1234 : decode cL_law 1234 = .ok (.iadd, 1) := by decide +kernel
theorem dL_law_1235 : decode cL_law 1235 = .ok (.iaload, 1) := by decide +kernel
theorem dL_law_1236 : decode cL_law 1236 = .ok (.i2c, 1) := by decide +kernel
theorem dL_law_1237 : decode cL_law 1237 = .ok (.invokevirtual 177, 3) := by decide +kernel
theorem dL_law_1240 : decode cL_law 1240 = .ok (.aload_n 2, 1) := by decide +kernel
theorem dL_law_1241 : decode cL_law 1241 = .ok (.invokevirtual 100, 3) := by decide +kernel
theorem dL_law_1244 : decode cL_law 1244 = .ok (.iload 5, 2) := by decide +kernel
theorem dL_law_1246 : decode cL_law 1246 = .ok (.if_icmp .eq 5, 3) := by decide +kernel
theorem dL_law_1249 : decode cL_law 1249 = .ok (.iconst 0, 1) := by decide +kernel
theorem dL_law_1250 : decode cL_law 1250 = .ok (.ireturn, 1) := by decide +kernel
theorem dL_law_1251 : decode cL_law 1251 = .ok (.goto 160, 3) := by decide +kernel
theorem dL_law_1254 : decode cL_law 1254 = .ok (.aload_n 1, 1) := by decide +kernel
theorem dL_law_1255 : decode cL_law 1255 = .ok (.aload_n 3, 1) := by decide +kernel
theorem dL_law_1256 : decode cL_law 1256 = .ok (.invokestatic 178, 3) := by decide +kernel
theorem dL_law_1259 : decode cL_law 1259 = .ok (.istore 5, 2) := by decide +kernel
theorem dL_law_1261 : decode cL_law 1261 = .ok (.aload_n 2, 1) := by decide +kernel
theorem dL_law_1262 : decode cL_law 1262 = .ok (.invokevirtual 180, 3) := by decide +kernel
theorem dL_law_1265 : decode cL_law 1265 = .ok (.istore 6, 2) := by decide +kernel
theorem dL_law_1267 : decode cL_law 1267 = .ok (.aload_n 2, 1) := by decide +kernel
theorem dL_law_1268 : decode cL_law 1268 = .ok (.invokevirtual 100, 3) := by decide +kernel
theorem dL_law_1271 : decode cL_law 1271 = .ok (.iload 5, 2) := by decide +kernel
theorem dL_law_1273 : decode cL_law 1273 = .ok (.if_icmp .eq 5, 3) := by decide +kernel
theorem dL_law_1276 : decode cL_law 1276 = .ok (.iconst 0, 1) := by decide +kernel
theorem dL_law_1277 : decode cL_law 1277 = .ok (.ireturn, 1) := by decide +kernel
theorem dL_law_1278 : decode cL_law 1278 = .ok (.iload 5, 2) := by decide +kernel
theorem dL_law_1280 : decode cL_law 1280 = .ok (.ifCond .ne 15, 3) := by decide +kernel
theorem dL_law_1283 : decode cL_law 1283 = .ok (.aload_n 3, 1) := by decide +kernel
theorem dL_law_1284 : decode cL_law 1284 = .ok (.iconst 0, 1) := by decide +kernel
theorem dL_law_1285 : decode cL_law 1285 = .ok (.laload, 1) := by decide +kernel
theorem dL_law_1286 : decode cL_law 1286 = .ok (.iload 6, 2) := by decide +kernel
theorem dL_law_1288 : decode cL_law 1288 = .ok (.i2l, 1) := by decide +kernel
theorem dL_law_1289 : decode cL_law 1289 = .ok (.lcmp, 1) := by decide +kernel
theorem dL_law_1290 : decode cL_law 1290 = .ok (.ifCond .eq 5, 3) := by decide +kernel
theorem dL_law_1293 : decode cL_law 1293 = .ok (.iconst 0, 1) := by decide +kernel
theorem dL_law_1294 : decode cL_law 1294 = .ok (.ireturn, 1) := by decide +kernel
theorem dL_law_1295 : decode cL_law 1295 = .ok (.goto 116, 3) := by decide +kernel
theorem dL_law_1298 : decode cL_law 1298 = .ok (.aload_n 1, 1) := by decide +kernel
theorem dL_law_1299 : decode cL_law 1299 = .ok (.invokevirtual 181, 3) := by decide +kernel
theorem dL_law_1302 : decode cL_law 1302 = .ok (.aload_n 2, 1) := by decide +kernel
theorem dL_law_1303 : decode cL_law 1303 = .ok (.invokevirtual 184, 3) := by decide +kernel
theorem dL_law_1306 : decode cL_law 1306 = .ok (.if_icmp .eq 105, 3) := by decide +kernel
theorem dL_law_1309 : decode cL_law 1309 = .ok (.iconst 0, 1) := by decide +kernel
theorem dL_law_1310 : decode cL_law 1310 = .ok (.ireturn, 1) := by decide +kernel
theorem dL_law_1311 : decode cL_law 1311 = .ok (.aload_n 1, 1) := by decide +kernel
theorem dL_law_1312 : decode cL_law 1312 = .ok (.aload_n 0, 1) := by decide +kernel
theorem dL_law_1313 : decode cL_law 1313 = .ok (.iload 4, 2) := by decide +kernel
theorem dL_law_1315 : decode cL_law 1315 = .ok (.iconst 1, 1) := by decide +kernel
theorem dL_law_1316 : decode cL_law 1316 = .ok (.iadd, 1) := by decide +kernel
theorem dL_law_1317 : decode cL_law 1317 = .ok (.iaload, 1) := by decide +kernel
theorem dL_law_1318 : decode cL_law 1318 = .ok (.aload_n 3, 1) := by decide +kernel
theorem dL_law_1319 : decode cL_law 1319 = .ok (.invokestatic 185, 3) := by decide +kernel
theorem dL_law_1322 : decode cL_law 1322 = .ok (.istore 5, 2) := by decide +kernel
theorem dL_law_1324 : decode cL_law 1324 = .ok (.aload_n 2, 1) := by decide +kernel
theorem dL_law_1325 : decode cL_law 1325 = .ok (.aload_n 0, 1) := by decide +kernel
theorem dL_law_1326 : decode cL_law 1326 = .ok (.iload 4, 2) := by decide +kernel
theorem dL_law_1328 : decode cL_law 1328 = .ok (.iconst 1, 1) := by decide +kernel
theorem dL_law_1329 : decode cL_law 1329 = .ok (.iadd, 1) := by decide +kernel
theorem dL_law_1330 : decode cL_law 1330 = .ok (.iaload, 1) := by decide +kernel
theorem dL_law_1331 : decode cL_law 1331 = .ok (.invokevirtual 187, 3) := by decide +kernel
theorem dL_law_1334 : decode cL_law 1334 = .ok (.istore 6, 2) := by decide +kernel
theorem dL_law_1336 : decode cL_law 1336 = .ok (.aload_n 2, 1) := by decide +kernel
theorem dL_law_1337 : decode cL_law 1337 = .ok (.invokevirtual 100, 3) := by decide +kernel
theorem dL_law_1340 : decode cL_law 1340 = .ok (.iload 5, 2) := by decide +kernel
theorem dL_law_1342 : decode cL_law 1342 = .ok (.if_icmp .eq 5, 3) := by decide +kernel
theorem dL_law_1345 : decode cL_law 1345 = .ok (.iconst 0, 1) := by decide +kernel
theorem dL_law_1346 : decode cL_law 1346 = .ok (.ireturn, 1) := by decide +kernel
theorem dL_law_1347 : decode cL_law 1347 = .ok (.iload 5, 2) := by decide +kernel
theorem dL_law_1349 : decode cL_law 1349 = .ok (.ifCond .ne 15, 3) := by decide +kernel
theorem dL_law_1352 : decode cL_law 1352 = .ok (.aload_n 3, 1) := by decide +kernel
theorem dL_law_1353 : decode cL_law 1353 = .ok (.iconst 0, 1) := by decide +kernel
theorem dL_law_1354 : decode cL_law 1354 = .ok (.laload, 1) := by decide +kernel
theorem dL_law_1355 : decode cL_law 1355 = .ok (.iload 6, 2) := by decide +kernel
theorem dL_law_1357 : decode cL_law 1357 = .ok (.i2l, 1) := by decide +kernel
theorem dL_law_1358 : decode cL_law 1358 = .ok (.lcmp, 1) := by decide +kernel
theorem dL_law_1359 : decode cL_law 1359 = .ok (.ifCond .eq 5, 3) := by decide +kernel
theorem dL_law_1362 : decode cL_law 1362 = .ok (.iconst 0, 1) := by decide +kernel
theorem dL_law_1363 : decode cL_law 1363 = .ok (.ireturn, 1) := by decide +kernel
theorem dL_law_1364 : decode cL_law 1364 = .ok (.goto 47, 3) := by decide +kernel
theorem dL_law_1367 : decode cL_law 1367 = .ok (.aload_n 1, 1) := by decide +kernel
theorem dL_law_1368 : decode cL_law 1368 = .ok (.aload_n 3, 1) := by decide +kernel
theorem dL_law_1369 : decode cL_law 1369 = .ok (.invokestatic 188, 3) := by decide +kernel
theorem dL_law_1372 : decode cL_law 1372 = .ok (.istore 5, 2) := by decide +kernel
theorem dL_law_1374 : decode cL_law 1374 = .ok (.aload_n 2, 1) := by decide +kernel
theorem dL_law_1375 : decode cL_law 1375 = .ok (.invokevirtual 190, 3) := by decide +kernel
theorem dL_law_1378 : decode cL_law 1378 = .ok (.istore 6, 2) := by decide +kernel
theorem dL_law_1380 : decode cL_law 1380 = .ok (.aload_n 2, 1) := by decide +kernel
theorem dL_law_1381 : decode cL_law 1381 = .ok (.invokevirtual 100, 3) := by decide +kernel
theorem dL_law_1384 : decode cL_law 1384 = .ok (.iload 5, 2) := by decide +kernel
theorem dL_law_1386 : decode cL_law 1386 = .ok (.if_icmp .eq 5, 3) := by decide +kernel
theorem dL_law_1389 : decode cL_law 1389 = .ok (.iconst 0, 1) := by decide +kernel
theorem dL_law_1390 : decode cL_law 1390 = .ok (.ireturn, 1) := by decide +kernel
theorem dL_law_1391 : decode cL_law 1391 = .ok (.iload 5, 2) := by decide +kernel
theorem dL_law_1393 : decode cL_law 1393 = .ok (.ifCond .ne 15, 3) := by decide +kernel
theorem dL_law_1396 : decode cL_law 1396 = .ok (.aload_n 3, 1) := by decide +kernel
theorem dL_law_1397 : decode cL_law 1397 = .ok (.iconst 0, 1) := by decide +kernel
theorem dL_law_1398 : decode cL_law 1398 = .ok (.laload, 1) := by decide +kernel
theorem dL_law_1399 : decode cL_law 1399 = .ok (.iload 6, 2) := by decide +kernel
theorem dL_law_1401 : decode cL_law 1401 = .ok (.i2l, 1) := by decide +kernel
theorem dL_law_1402 : decode cL_law 1402 = .ok (.lcmp, 1) := by decide +kernel
theorem dL_law_1403 : decode cL_law 1403 = .ok (.ifCond .eq 5, 3) := by decide +kernel
theorem dL_law_1406 : decode cL_law 1406 = .ok (.iconst 0, 1) := by decide +kernel
theorem dL_law_1407 : decode cL_law 1407 = .ok (.ireturn, 1) := by decide +kernel
theorem dL_law_1408 : decode cL_law 1408 = .ok (.goto 3, 3) := by decide +kernel
theorem dL_law_1411 : decode cL_law 1411 = .ok (.iinc 4 4, 3) := by decide +kernel
theorem dL_law_1414 : decode cL_law 1414 = .ok (.goto (-1391), 3) := by decide +kernel
theorem dL_law_1417 : decode cL_law 1417 = .ok (.iconst 1, 1) := by decide +kernel
theorem dL_law_1418 : decode cL_law 1418 = .ok (.ireturn, 1) := by decide +kernel
end
section
theorem dX12_init_0 : decode cX12_init 0 = .ok (.aload_n 0, 1) := by decide +kernel
theorem dX12_init_1 : decode cX12_init 1 = .ok (.invokespecial 1, 3) := by decide +kernel
theorem dX12_init_4 : decode cX12_init 4 = .ok (.aload_n 0, 1) := by decide +kernel
theorem dX12_init_5 : decode cX12_init 5 = .ok (.bipush 10, 2) := by decide +kernel
theorem dX12_init_7 : decode cX12_init 7 = .ok (.newarray .char, 2) := by decide +kernel
theorem dX12_init_9 : decode cX12_init 9 = .ok (.putfield 7, 3) := by decide +kernel
theorem dX12_init_12 : decode cX12_init 12 = .ok (.aload_n 0, 1) := by decide +kernel
theorem dX12_init_13 : decode cX12_init 13 = .ok (.bipush 10, 2) := by decide +kernel
theorem dX12_init_15 : decode cX12_init 15 = .ok (.newarray .int, 2) := by decide +kernel
theorem dX12_init_17 : decode cX12_init 17 = .ok (.putfield 13, 3) := by decide +kernel
theorem dX12_init_20 : decode cX12_init 20 = .ok (.aload_n 0, 1) := by decide +kernel
theorem dX12_init_21 : decode cX12_init 21 = .ok (.bipush 10, 2) := by decide +kernel
theorem dX12_init_23 : decode cX12_init 23 = .ok (.newarray .int, 2) := by decide +kernel
theorem dX12_init_25 : decode cX12_init 25 = .ok (.putfield 17, 3) := by decide +kernel
theorem dX12_init_28 : decode cX12_init 28 = .ok (.aload_n 0, 1) := by decide +kernel
theorem dX12_init_29 : decode cX12_init 29 = .ok (.bipush 10, 2) := by decide +kernel
theorem dX12_init_31 : decode cX12_init 31 = .ok (.newarray .int, 2) := by decide +kernel
theorem dX12_init_33 : decode cX12_init 33 = .ok (.putfield 20, 3) := by decide +kernel
theorem dX12_init_36 : decode cX12_init 36 = .ok (.aload_n 0, 1) := by decide +kernel
theorem dX12_init_37 : decode cX12_init 37 = .ok (.bipush 12, 2) := by decide +kernel
theorem dX12_init_39 : decode cX12_init 39 = .ok (.newarray .boolean, 2) := by decide +kernel
theorem dX12_init_41 : decode cX12_init 41 = .ok (.putfield 23, 3) := by decide +kernel
theorem dX12_init_44 : decode cX12_init 44 = .ok (.aload_n 0, 1) := by decide +kernel
theorem dX12_init_45 : decode cX12_init 45 = .ok (.bipush 12, 2) := by decide +kernel
theorem dX12_init_47 : decode cX12_init 47 = .ok (.newarray .int, 2) := by decide +kernel
theorem dX12_init_49 : decode cX12_init 49 = .ok (.putfield 27, 3) := by decide +kernel
theorem dX12_init_52 : decode cX12_init 52 = .ok (.aload_n 0, 1) := by decide +kernel
theorem dX12_init_53 : decode cX12_init 53 = .ok (.bipush 12, 2) := by decide +kernel
theorem dX12_init_55 : decode cX12_init 55 = .ok (.newarray .int, 2) := by decide +kernel
theorem dX12_init_57 : decode cX12_init 57 = .ok (.putfield 30, 3) := by decide +kernel
theorem dX12_init_60 : decode cX12_init 60 = .ok (.aload_n 0, 1) := by decide +kernel
theorem dX12_init_61 : decode cX12_init 61 = .ok (.bipush 12, 2) := by decide +kernel
theorem dX12_init_63 : decode cX12_init 63 = .ok (.newarray .int, 2) := by decide +kernel
theorem dX12_init_65 : decode cX12_init 65 = .ok (.putfield 33, 3) := by decide +kernel
theorem dX12_init_68 : decode cX12_init 68 = .ok (.aload_n 0, 1) := by decide +kernel
theorem dX12_init_69 : decode cX12_init 69 = .ok (.bipush 12, 2) := by decide +kernel
theorem dX12_init_71 : decode cX12_init 71 = .ok (.newarray .int, 2) := by decide +kernel
theorem dX12_init_73 : decode cX12_init 73 = .ok (.putfield 36, 3) := by decide +kernel
theorem dX12_init_76 : decode cX12_init 76 = .ok (.aload_n 0, 1) := by decide +kernel
theorem dX12_init_77 : decode cX12_init 77 = .ok (.sipush 300, 3) := by decide +kernel
theorem dX12_init_80 : decode cX12_init 80 = .ok (.newarray .char, 2) := by decide +kernel
theorem dX12_init_82 : decode cX12_init 82 = .ok (.putfield 39, 3) := by decide +kernel
theorem dX12_init_85 : decode cX12_init 85 = .ok (.aload_n 0, 1) := by decide +kernel
theorem dX12_init_86 : decode cX12_init 86 = .ok (.sipush 160, 3) := by decide +kernel
theorem dX12_init_89 : decode cX12_init 89 = .ok (.newarray .int, 2) := by decide +kernel
theorem dX12_init_91 : decode cX12_init 91 = .ok (.putfield 42, 3) := by decide +kernel
theorem dX12_init_94 : decode cX12_init 94 = .ok (.aload_n 0, 1) := by decide +kernel
theorem dX12_init_95 : decode cX12_init 95 = .ok (.sipush 160, 3) := by decide +kernel
theorem dX12_init_98 : decode cX12_init 98 = .ok (.newarray .int, 2) := by decide +kernel
theorem dX12_init_100 : decode cX12_init 100 = .ok (.putfield 45, 3) := by decide +kernel
theorem dX12_init_103 : decode cX12_init 103 = .ok (.aload_n 0, 1) := by decide +kernel
theorem dX12_init_104 : decode cX12_init 104 = .ok (.bipush 20, 2) := by decide +kernel
theorem dX12_init_106 : decode cX12_init 106 = .ok (.newarray .int, 2) := by decide +kernel
theorem dX12_init_108 : decode cX12_init 108 = .ok (.putfield 48, 3) := by decide +kernel
theorem dX12_init_111 : decode cX12_init 111 = .ok (.aload_n 0, 1) := by decide +kernel
theorem dX12_init_112 : decode cX12_init 112 = .ok (.bipush 20, 2) := by decide +kernel
theorem dX12_init_114 : decode cX12_init 114 = .ok (.newarray .char, 2) := by decide +kernel
theorem dX12_init_116 : decode cX12_init 116 = .ok (.putfield 51, 3) := by decide +kernel
theorem dX12_init_119 : decode cX12_init 119 = .ok (.aload_n 0, 1) := by decide +kernel
theorem dX12_init_120 : decode cX12_init 120 = .ok (.bipush 20, 2) := by decide +kernel
theorem dX12_init_122 : decode cX12_init 122 = .ok (.newarray .int, 2) := by decide +kernel
theorem dX12_init_124 : decode cX12_init 124 = .ok (.putfield 54, 3) := by decide +kernel
theorem dX12_init_127 : decode cX12_init 127 = .ok (.aload_n 0, 1) := by decide +kernel
theorem dX12_init_128 : decode cX12_init 128 = .ok (.bipush 100, 2) := by decide +kernel
theorem dX12_init_130 : decode cX12_init 130 = .ok (.newarray .int, 2) := by decide +kernel
theorem dX12_init_132 : decode cX12_init 132 = .ok (.putfield 57, 3) := by decide +kernel
theorem dX12_init_135 : decode cX12_init 135 = .ok (.aload_n 0, 1) := by decide +kernel
theorem dX12_init_136 : decode cX12_init 136 = .ok (.sipush 800, 3) := by decide +kernel
theorem dX12_init_139 : decode cX12_init 139 = .ok (.newarray .char, 2) := by decide +kernel
theorem dX12_init_141 : decode cX12_init 141 = .ok (.putfield 60, 3) := by decide +kernel
theorem dX12_init_144 : decode cX12_init 144 = .ok (.aload_n 0, 1) := by decide +kernel
theorem dX12_init_145 : decode cX12_init 145 = .ok (.bipush 20, 2) := by decide +kernel
theorem dX12_init_147 : decode cX12_init 147 = .ok (.newarray .char, 2) := by decide +kernel
theorem dX12_init_149 : decode cX12_init 149 = .ok (.putfield 63, 3) := by decide +kernel
theorem dX12_init_152 : decode cX12_init 152 = .ok (.aload_n 0, 1) := by decide +kernel
theorem dX12_init_153 : decode cX12_init 153 = .ok (.bipush 20, 2) := by decide +kernel
theorem dX12_init_155 : decode cX12_init 155 = .ok (.newarray .int, 2) := by decide +kernel
theorem dX12_init_157 : decode cX12_init 157 = .ok (.putfield 66, 3) := by decide +kernel
theorem dX12_init_160 : decode cX12_init 160 = .ok (.aload_n 0, 1) := by decide +kernel
theorem dX12_init_161 : decode cX12_init 161 = .ok (.bipush 100, 2) := by decide +kernel
theorem dX12_init_163 : decode cX12_init 163 = .ok (.newarray .int, 2) := by decide +kernel
theorem dX12_init_165 : decode cX12_init 165 = .ok (.putfield 69, 3) := by decide +kernel
theorem dX12_init_168 : decode cX12_init 168 = .ok (.aload_n 0, 1) := by decide +kernel
theorem dX12_init_169 : decode cX12_init 169 = .ok (.sipush 800, 3) := by decide +kernel
theorem dX12_init_172 : decode cX12_init 172 = .ok (.newarray .char, 2) := by decide +kernel
theorem dX12_init_174 : decode cX12_init 174 = .ok (.putfield 72, 3) := by decide +kernel
theorem dX12_init_177 : decode cX12_init 177 = .ok (.aload_n 0, 1) := by decide +kernel
theorem dX12_init_178 : decode cX12_init 178 = .ok (.bipush 20, 2) := by decide +kernel
theorem dX12_init_180 : decode cX12_init 180 = .ok (.newarray .int, 2) := by decide +kernel
theorem dX12_init_182 : decode cX12_init 182 = .ok (.putfield 75, 3) := by decide +kernel
theorem dX12_init_185 : decode cX12_init 185 = .ok (.aload_n 0, 1) := by decide +kernel
theorem dX12_init_186 : decode cX12_init 186 = .ok (.bipush 20, 2) := by decide +kernel
theorem dX12_init_188 : decode cX12_init 188 = .ok (.newarray .int, 2) := by decide +kernel
theorem dX12_init_190 : decode cX12_init 190 = .ok (.putfield 78, 3) := by decide +kernel
theorem dX12_init_193 : decode cX12_init 193 = .ok (.aload_n 0, 1) := by decide +kernel
theorem dX12_init_194 : decode cX12_init 194 = .ok (.sipush 19019, 3) := by decide +kernel
theorem dX12_init_197 : decode cX12_init 197 = .ok (.newarray .boolean, 2) := by decide +kernel
theorem dX12_init_199 : decode cX12_init 199 = .ok (.putfield 81, 3) := by decide +kernel
theorem dX12_init_202 : decode cX12_init 202 = .ok (.aload_n 0, 1) := by decide +kernel
theorem dX12_init_203 : decode cX12_init 203 = .ok (.bipush 64, 2) := by decide +kernel
theorem dX12_init_205 : decode cX12_init 205 = .ok (.newarray .int, 2) := by decide +kernel
theorem dX12_init_207 : decode cX12_init 207 = .ok (.putfield 84, 3) := by decide +kernel
theorem dX12_init_210 : decode cX12_init 210 = .ok (.aload_n 0, 1) := by decide +kernel
theorem dX12_init_211 : decode cX12_init 211 = .ok (.bipush 10, 2) := by decide +kernel
theorem dX12_init_213 : decode cX12_init 213 = .ok (.newarray .int, 2) := by decide +kernel
theorem dX12_init_215 : decode cX12_init 215 = .ok (.putfield 87, 3) := by decide +kernel
theorem dX12_init_218 : decode cX12_init 218 = .ok (.aload_n 0, 1) := by decide +kernel
theorem dX12_init_219 : decode cX12_init 219 = .ok (.bipush 10, 2) := by decide +kernel
theorem dX12_init_221 : decode cX12_init 221 = .ok (.newarray .char, 2) := by decide +kernel
theorem dX12_init_223 : decode cX12_init 223 = .ok (.putfield 90, 3) := by decide +kernel
theorem dX12_init_226 : decode cX12_init 226 = .ok (.aload_n 0, 1) := by decide +kernel
theorem dX12_init_227 : decode cX12_init 227 = .ok (.bipush 10, 2) := by decide +kernel
theorem dX12_init_229 : decode cX12_init 229 = .ok (.newarray .int, 2) := by decide +kernel
theorem dX12_init_231 : decode cX12_init 231 = .ok (.putfield 93, 3) := by decide +kernel
theorem dX12_init_234 : decode cX12_init 234 = .ok (.aload_n 0, 1) := by decide +kernel
theorem dX12_init_235 : decode cX12_init 235 = .ok (.bipush 50, 2) := by decide +kernel
theorem dX12_init_237 : decode cX12_init 237 = .ok (.newarray .int, 2) := by decide +kernel
theorem dX12_init_239 : decode cX12_init 239 = .ok (.putfield 96, 3) := by decide +kernel
theorem dX12_init_242 : decode cX12_init 242 = .ok (.aload_n 0, 1) := by decide +kernel
theorem dX12_init_243 : decode cX12_init 243 = .ok (.bipush 10, 2) := by decide +kernel
theorem dX12_init_245 : decode cX12_init 245 = .ok (.newarray .int, 2) := by decide +kernel
theorem dX12_init_247 : decode cX12_init 247 = .ok (.putfield 99, 3) := by decide +kernel
theorem dX12_init_250 : decode cX12_init 250 = .ok (.aload_n 0, 1) := by decide +kernel
theorem dX12_init_251 : decode cX12_init 251 = .ok (.bipush 10, 2) := by decide +kernel
theorem dX12_init_253 : decode cX12_init 253 = .ok (.newarray .char, 2) := by decide +kernel
theorem dX12_init_255 : decode cX12_init 255 = .ok (.putfield 102, 3) := by decide +kernel
theorem dX12_init_258 : decode cX12_init 258 = .ok (.aload_n 0, 1) := by decide +kernel
theorem dX12_init_259 : decode cX12_init 259 = .ok (.sipush 300, 3) := by decide +kernel
theorem dX12_init_262 : decode cX12_init 262 = .ok (.newarray .char, 2) := by decide +kernel
theorem dX12_init_264 : decode cX12_init 264 = .ok (.putfield 105, 3) := by decide +kernel
theorem dX12_init_267 : decode cX12_init 267 = .ok (.aload_n 0, 1) := by decide +kernel
theorem dX12_init_268 : decode cX12_init 268 = .ok (.sipush 300, 3) := by decide +kernel
theorem dX12_init_271 : decode cX12_init 271 = .ok (.newarray .char, 2) := by decide +kernel
theorem dX12_init_273 : decode cX12_init 273 = .ok (.putfield 108, 3) := by decide +kernel
theorem dX12_init_276 : decode cX12_init 276 = .ok (.return_, 1) := by decide +kernel
theorem dX12_thrown_0 : decode cX12_thrown 0 = .ok (.aload_n 0, 1) := by decide +kernel
theorem dX12_thrown_1 : decode cX12_thrown 1 = .ok (.getfield 111, 3) := by decide +kernel
theorem dX12_thrown_4 : decode cX12_thrown 4 = .ok (.ireturn, 1) := by decide +kernel
theorem dX12_in_0 : decode cX12_in 0 = .ok (.iload_n 0, 1) := by decide +kernel
theorem dX12_in_1 : decode cX12_in 1 = .ok (.iload_n 1, 1) := by decide +kernel
theorem dX12_in_2 : decode cX12_in 2 = .ok (.if_icmp .lt 12, 3) := by decide +kernel
theorem dX12_in_5 : decode cX12_in 5 = .ok (.iload_n 0, 1) := by decide +kernel
theorem dX12_in_6 : decode cX12_in 6 = .ok (.iload_n 2, 1) := by decide +kernel
theorem dX12_in_7 : decode cX12_in 7 = .ok (.if_icmp .gt 7, 3) := by decide +kernel
theorem dX12_in_10 : decode cX12_in 10 = .ok (.iconst 1, 1) := by decide +kernel
theorem dX12_in_11 : decode cX12_in 11 = .ok (.goto 4, 3) := by decide +kernel
theorem dX12_in_14 : decode cX12_in 14 = .ok (.iconst 0, 1) := by decide +kernel
theorem dX12_in_15 : decode cX12_in 15 = .ok (.ireturn, 1) := by decide +kernel
theorem dX12_isFine_0 : decode cX12_isFine 0 = .ok (.aload_n 0, 1) := by decide +kernel
theorem dX12_isFine_1 : decode cX12_isFine 1 = .ok (.iload_n 1, 1) := by decide +kernel
theorem dX12_isFine_2 : decode cX12_isFine 2 = .ok (.putfield 111, 3) := by decide +kernel
theorem dX12_isFine_5 : decode cX12_isFine 5 = .ok (.iload_n 1, 1) := by decide +kernel
theorem dX12_isFine_6 : decode cX12_isFine 6 = .ok (.ifCond .ne 7, 3) := by decide +kernel
theorem dX12_isFine_9 : decode cX12_isFine 9 = .ok (.iconst 1, 1) := by decide +kernel
theorem dX12_isFine_10 : decode cX12_isFine 10 = .ok (.goto 4, 3) := by decide +kernel
theorem dX12_isFine_13 : decode cX12_isFine 13 = .ok (.iconst 0, 1) := by decide +kernel
theorem dX12_isFine_14 : decode cX12_isFine 14 = .ok (.ireturn, 1) := by decide +kernel
theorem dX12_isTag_0 : decode cX12_isTag 0 = .ok (.iload_n 0, 1) := by decide +kernel
theorem dX12_isTag_1 : decode cX12_isTag 1 = .ok (.bipush 65, 2) := by decide +kernel
theorem dX12_isTag_3 : decode cX12_isTag 3 = .ok (.bipush 90, 2) := by decide +kernel
theorem dX12_isTag_5 : decode cX12_isTag 5 = .ok (.invokestatic 115, 3) := by decide +kernel
theorem dX12_isTag_8 : decode cX12_isTag 8 = .ok (.ifCond .eq 19, 3) := by decide +kernel
theorem dX12_isTag_11 : decode cX12_isTag 11 = .ok (.iload_n 0, 1) := by decide +kernel
theorem dX12_isTag_12 : decode cX12_isTag 12 = .ok (.bipush 72, 2) := by decide +kernel
theorem dX12_isTag_14 : decode cX12_isTag 14 = .ok (.if_icmp .eq 13, 3) := by decide +kernel
theorem dX12_isTag_17 : decode cX12_isTag 17 = .ok (.iload_n 0, 1) := by decide +kernel
theorem dX12_isTag_18 : decode cX12_isTag 18 = .ok (.bipush 84, 2) := by decide +kernel
theorem dX12_isTag_20 : decode cX12_isTag 20 = .ok (.if_icmp .eq 7, 3) := by decide +kernel
theorem dX12_isTag_23 : decode cX12_isTag 23 = .ok (.iconst 1, 1) := by decide +kernel
theorem dX12_isTag_24 : decode cX12_isTag 24 = .ok (.goto 4, 3) := by decide +kernel
theorem dX12_isTag_27 : decode cX12_isTag 27 = .ok (.iconst 0, 1) := by decide +kernel
theorem dX12_isTag_28 : decode cX12_isTag 28 = .ok (.ireturn, 1) := by decide +kernel
theorem dX12_addItem_0 : decode cX12_addItem 0 = .ok (.iload_n 1, 1) := by decide +kernel
theorem dX12_addItem_1 : decode cX12_addItem 1 = .ok (.invokestatic 119, 3) := by decide +kernel
theorem dX12_addItem_4 : decode cX12_addItem 4 = .ok (.ifCond .eq 32, 3) := by decide +kernel
theorem dX12_addItem_7 : decode cX12_addItem 7 = .ok (.iload_n 2, 1) := by decide +kernel
theorem dX12_addItem_8 : decode cX12_addItem 8 = .ok (.iconst 0, 1) := by decide +kernel
theorem dX12_addItem_9 : decode cX12_addItem 9 = .ok (.bipush 9, 2) := by decide +kernel
theorem dX12_addItem_11 : decode cX12_addItem 11 = .ok (.invokestatic 115, 3) := by decide +kernel
theorem dX12_addItem_14 : decode cX12_addItem 14 = .ok (.ifCond .eq 22, 3) := by decide +kernel
theorem dX12_addItem_17 : decode cX12_addItem 17 = .ok (.iload_n 3, 1) := by decide +kernel
theorem dX12_addItem_18 : decode cX12_addItem 18 = .ok (.iconst 1, 1) := by decide +kernel
theorem dX12_addItem_19 : decode cX12_addItem 19 = .ok (.bipush 9, 2) := by decide +kernel
theorem dX12_addItem_21 : decode cX12_addItem 21 = .ok (.invokestatic 115, 3) := by decide +kernel
theorem dX12_addItem_24 : decode cX12_addItem 24 = .ok (.ifCond .eq 12, 3) := by decide +kernel
theorem dX12_addItem_27 : decode cX12_addItem 27 = .ok (.iload_n 3, 1) := by decide +kernel
theorem dX12_addItem_28 : decode cX12_addItem 28 = .ok (.iload_n 2, 1) := by decide +kernel
theorem dX12_addItem_29 : decode cX12_addItem 29 = .ok (.if_icmp .lt 7, 3) := by decide +kernel
theorem dX12_addItem_32 : decode cX12_addItem 32 = .ok (.iconst 1, 1) := by decide +kernel
theorem dX12_addItem_33 : decode cX12_addItem 33 = .ok (.goto 4, 3) := by decide +kernel
theorem dX12_addItem_36 : decode cX12_addItem 36 = .ok (.iconst 0, 1) := by decide +kernel
theorem dX12_addItem_37 : decode cX12_addItem 37 = .ok (.istore 4, 2) := by decide +kernel
theorem dX12_addItem_39 : decode cX12_addItem 39 = .ok (.aload_n 0, 1) := by decide +kernel
theorem dX12_addItem_40 : decode cX12_addItem 40 = .ok (.iload 4, 2) := by decide +kernel
theorem dX12_addItem_42 : decode cX12_addItem 42 = .ok (.ifCond .ne 7, 3) := by decide +kernel
theorem dX12_addItem_45 : decode cX12_addItem 45 = .ok (.iconst 1, 1) := by decide +kernel
theorem dX12_addItem_46 : decode cX12_addItem 46 = .ok (.goto 17, 3) := by decide +kernel
theorem dX12_addItem_49 : decode cX12_addItem 49 = .ok (.aload_n 0, 1) := by decide +kernel
theorem dX12_addItem_50 : decode cX12_addItem 50 = .ok (.getfield 123, 3) := by decide +kernel
theorem dX12_addItem_53 : decode cX12_addItem 53 = .ok (.bipush 10, 2) := by decide +kernel
theorem dX12_addItem_55 : decode cX12_addItem 55 = .ok (.if_icmp .ne 7, 3) := by decide +kernel
theorem dX12_addItem_58 : decode cX12_addItem 58 = .ok (.iconst 2, 1) := by decide +kernel
theorem dX12_addItem_59 : decode cX12_addItem 59 = .ok (.goto 4, 3) := by decide +kernel
theorem dX12_addItem_62 : decode cX12_addItem 62 = .ok (.iconst 0, 1) := by decide +kernel
theorem dX12_addItem_63 : decode cX12_addItem 63 = .ok (.invokevirtual 126, 3) := by decide +kernel
theorem dX12_addItem_66 : decode cX12_addItem 66 = .ok (.ifCond .ne 5, 3) := by decide +kernel
theorem dX12_addItem_69 : decode cX12_addItem 69 = .ok (.iconst 0, 1) := by decide +kernel
theorem dX12_addItem_70 : decode cX12_addItem 70 = .ok (.ireturn, 1) := by decide +kernel
theorem dX12_addItem_71 : decode cX12_addItem 71 = .ok (.aload_n 0, 1) := by decide +kernel
theorem dX12_addItem_72 : decode cX12_addItem 72 = .ok (.getfield 130, 3) := by decide +kernel
theorem dX12_addItem_75 : decode cX12_addItem 75 = .ok (.ifCond .ne 46, 3) := by decide +kernel
theorem dX12_addItem_78 : decode cX12_addItem 78 = .ok (.aload_n 0, 1) := by decide +kernel
theorem dX12_addItem_79 : decode cX12_addItem 79 = .ok (.getfield 23, 3) := by decide +kernel
theorem dX12_addItem_82 : decode cX12_addItem 82 = .ok (.aload_n 0, 1) := by decide +kernel
theorem dX12_addItem_83 : decode cX12_addItem 83 = .ok (.getfield 134, 3) := by decide +kernel
theorem dX12_addItem_86 : decode cX12_addItem 86 = .ok (.iconst 0, 1) := by decide +kernel
theorem dX12_addItem_87 : decode cX12_addItem 87 = .ok (.bastore, 1) := by decide +kernel
theorem dX12_addItem_88 : decode cX12_addItem 88 = .ok (.aload_n 0, 1) := by decide +kernel
theorem dX12_addItem_89 : decode cX12_addItem 89 = .ok (.getfield 27, 3) := by decide +kernel
theorem dX12_addItem_92 : decode cX12_addItem 92 = .ok (.aload_n 0, 1) := by decide +kernel
theorem dX12_addItem_93 : decode cX12_addItem 93 = .ok (.getfield 134, 3) := by decide +kernel
theorem dX12_addItem_96 : decode cX12_addItem 96 = .ok (.aload_n 0, 1) := by decide +kernel
theorem dX12_addItem_97 : decode cX12_addItem 97 = .ok (.getfield 123, 3) := by decide +kernel
theorem dX12_addItem_100 : decode cX12_addItem 100 = .ok (.iastore, 1) := by decide +kernel
theorem dX12_addItem_101 : decode cX12_addItem 101 = .ok (.aload_n 0, 1) := by decide +kernel
theorem dX12_addItem_102 : decode cX12_addItem 102 = .ok (.getfield 33, 3) := by decide +kernel
theorem dX12_addItem_105 : decode cX12_addItem 105 = .ok (.aload_n 0, 1) := by decide +kernel
theorem dX12_addItem_106 : decode cX12_addItem 106 = .ok (.getfield 134, 3) := by decide +kernel
theorem dX12_addItem_109 : decode cX12_addItem 109 = .ok (.iload_n 2, 1) := by decide +kernel
theorem dX12_addItem_110 : decode cX12_addItem 110 = .ok (.iastore, 1) := by decide +kernel
theorem dX12_addItem_111 : decode cX12_addItem 111 = .ok (.aload_n 0, 1) := by decide +kernel
theorem dX12_addItem_112 : decode cX12_addItem 112 = .ok (.dup, 1) := by decide +kernel
theorem dX12_addItem_113 : decode cX12_addItem 113 = .ok (.getfield 134, 3) := by decide +kernel
theorem dX12_addItem_116 : decode cX12_addItem 116 = .ok (.iconst 1, 1) := by decide +kernel
theorem dX12_addItem_117 : decode cX12_addItem 117 = .ok (.iadd, 1) := by decide +kernel
theorem dX12_addItem_118 : decode cX12_addItem 118 = .ok (.putfield 134, 3) := by decide +kernel
theorem dX12_addItem_121 : decode cX12_addItem 121 = .ok (.aload_n 0, 1) := by decide +kernel
theorem dX12_addItem_122 : decode cX12_addItem 122 = .ok (.getfield 7, 3) := by decide +kernel
theorem dX12_addItem_125 : decode cX12_addItem 125 = .ok (.aload_n 0, 1) := by decide +kernel
theorem dX12_addItem_126 : decode cX12_addItem 126 = .ok (.getfield 123, 3) := by decide +kernel
theorem dX12_addItem_129 : decode cX12_addItem 129 = .ok (.iload_n 1, 1) := by decide +kernel
theorem dX12_addItem_130 : decode cX12_addItem 130 = .ok (.castore, 1) := by decide +kernel
theorem dX12_addItem_131 : decode cX12_addItem 131 = .ok (.aload_n 0, 1) := by decide +kernel
theorem dX12_addItem_132 : decode cX12_addItem 132 = .ok (.getfield 13, 3) := by decide +kernel
theorem dX12_addItem_135 : decode cX12_addItem 135 = .ok (.aload_n 0, 1) := by decide +kernel
theorem dX12_addItem_136 : decode cX12_addItem 136 = .ok (.getfield 123, 3) := by decide +kernel
theorem dX12_addItem_139 : decode cX12_addItem 139 = .ok (.iload_n 2, 1) := by decide +kernel
theorem dX12_addItem_140 : decode cX12_addItem 140 = .ok (.iastore, 1) := by decide +kernel
theorem dX12_addItem_141 : decode cX12_addItem 141 = .ok (.aload_n 0, 1) := by decide +kernel
theorem dX12_addItem_142 : decode cX12_addItem 142 = .ok (.getfield 17, 3) := by decide +kernel
theorem dX12_addItem_145 : decode cX12_addItem 145 = .ok (.aload_n 0, 1) := by decide +kernel
theorem dX12_addItem_146 : decode cX12_addItem 146 = .ok (.getfield 123, 3) := by decide +kernel
theorem dX12_addItem_149 : decode cX12_addItem 149 = .ok (.iload_n 3, 1) := by decide +kernel
theorem dX12_addItem_150 : decode cX12_addItem 150 = .ok (.iastore, 1) := by decide +kernel
theorem dX12_addItem_151 : decode cX12_addItem 151 = .ok (.aload_n 0, 1) := by decide +kernel
theorem dX12_addItem_152 : decode cX12_addItem 152 = .ok (.getfield 20, 3) := by decide +kernel
theorem dX12_addItem_155 : decode cX12_addItem 155 = .ok (.aload_n 0, 1) := by decide +kernel
theorem dX12_addItem_156 : decode cX12_addItem 156 = .ok (.getfield 123, 3) := by decide +kernel
theorem dX12_addItem_159 : decode cX12_addItem 159 = .ok (.aload_n 0, 1) := by decide +kernel
theorem dX12_addItem_160 : decode cX12_addItem 160 = .ok (.getfield 134, 3) := by decide +kernel
theorem dX12_addItem_163 : decode cX12_addItem 163 = .ok (.iconst 1, 1) := by decide +kernel
theorem dX12_addItem_164 : decode cX12_addItem 164 = .ok (.isub, 1) := by decide +kernel
theorem dX12_addItem_165 : decode cX12_addItem 165 = .ok (.iastore, 1) := by decide +kernel
theorem dX12_addItem_166 : decode cX12_addItem 166 = .ok (.aload_n 0, 1) := by decide +kernel
theorem dX12_addItem_167 : decode cX12_addItem 167 = .ok (.getfield 30, 3) := by decide +kernel
theorem dX12_addItem_170 : decode cX12_addItem 170 = .ok (.aload_n 0, 1) := by decide +kernel
theorem dX12_addItem_171 : decode cX12_addItem 171 = .ok (.getfield 134, 3) := by decide +kernel
theorem dX12_addItem_174 : decode cX12_addItem 174 = .ok (.iconst 1, 1) := by decide +kernel
theorem dX12_addItem_175 : decode cX12_addItem 175 = .ok (.isub, 1) := by decide +kernel
theorem dX12_addItem_176 : decode cX12_addItem 176 = .ok (.aload_n 0, 1) := by decide +kernel
theorem dX12_addItem_177 : decode cX12_addItem 177 = .ok (.getfield 123, 3) := by decide +kernel
theorem dX12_addItem_180 : decode cX12_addItem 180 = .ok (.iastore, 1) := by decide +kernel
theorem dX12_addItem_181 : decode cX12_addItem 181 = .ok (.aload_n 0, 1) := by decide +kernel
theorem dX12_addItem_182 : decode cX12_addItem 182 = .ok (.dup, 1) := by decide +kernel
theorem dX12_addItem_183 : decode cX12_addItem 183 = .ok (.getfield 123, 3) := by decide +kernel
theorem dX12_addItem_186 : decode cX12_addItem 186 = .ok (.iconst 1, 1) := by decide +kernel
theorem dX12_addItem_187 : decode cX12_addItem 187 = .ok (.iadd, 1) := by decide +kernel
theorem dX12_addItem_188 : decode cX12_addItem 188 = .ok (.putfield 123, 3) := by decide +kernel
theorem dX12_addItem_191 : decode cX12_addItem 191 = .ok (.aload_n 0, 1) := by decide +kernel
theorem dX12_addItem_192 : decode cX12_addItem 192 = .ok (.getfield 123, 3) := by decide +kernel
theorem dX12_addItem_195 : decode cX12_addItem 195 = .ok (.iconst 1, 1) := by decide +kernel
theorem dX12_addItem_196 : decode cX12_addItem 196 = .ok (.isub, 1) := by decide +kernel
theorem dX12_addItem_197 : decode cX12_addItem 197 = .ok (.ireturn, 1) := by decide +kernel
theorem dX12_openLoop_0 : decode cX12_openLoop 0 = .ok (.iload_n 1, 1) := by decide +kernel
theorem dX12_openLoop_1 : decode cX12_openLoop 1 = .ok (.iconst 0, 1) := by decide +kernel
theorem dX12_openLoop_2 : decode cX12_openLoop 2 = .ok (.bipush 9, 2) := by decide +kernel
theorem dX12_openLoop_4 : decode cX12_openLoop 4 = .ok (.invokestatic 115, 3) := by decide +kernel
theorem dX12_openLoop_7 : decode cX12_openLoop 7 = .ok (.ifCond .eq 22, 3) := by decide +kernel
theorem dX12_openLoop_10 : decode cX12_openLoop 10 = .ok (.iload_n 2, 1) := by decide +kernel
theorem dX12_openLoop_11 : decode cX12_openLoop 11 = .ok (.iconst 1, 1) := by decide +kernel
theorem dX12_openLoop_12 : decode cX12_openLoop 12 = .ok (.bipush 9, 2) := by decide +kernel
theorem dX12_openLoop_14 : decode cX12_openLoop 14 = .ok (.invokestatic 115, 3) := by decide +kernel
theorem dX12_openLoop_17 : decode cX12_openLoop 17 = .ok (.ifCond .eq 12, 3) := by decide +kernel
theorem dX12_openLoop_20 : decode cX12_openLoop 20 = .ok (.iload_n 2, 1) := by decide +kernel
theorem dX12_openLoop_21 : decode cX12_openLoop 21 = .ok (.iload_n 1, 1) := by decide +kernel
theorem dX12_openLoop_22 : decode cX12_openLoop 22 = .ok (.if_icmp .lt 7, 3) := by decide +kernel
theorem dX12_openLoop_25 : decode cX12_openLoop 25 = .ok (.iconst 1, 1) := by decide +kernel
theorem dX12_openLoop_26 : decode cX12_openLoop 26 = .ok (.goto 4, 3) := by decide +kernel
theorem dX12_openLoop_29 : decode cX12_openLoop 29 = .ok (.iconst 0, 1) := by decide +kernel
theorem dX12_openLoop_30 : decode cX12_openLoop 30 = .ok (.istore_n 3, 1) := by decide +kernel
theorem dX12_openLoop_31 : decode cX12_openLoop 31 = .ok (.aload_n 0, 1) := by decide +kernel
theorem dX12_openLoop_32 : decode cX12_openLoop 32 = .ok (.iload_n 3, 1) := by decide +kernel
theorem dX12_openLoop_33 : decode cX12_openLoop 33 = .ok (.ifCond .ne 7, 3) := by decide +kernel
theorem dX12_openLoop_36 : decode cX12_openLoop 36 = .ok (.iconst 1, 1) := by decide +kernel
theorem dX12_openLoop_37 : decode cX12_openLoop 37 = .ok (.goto 15, 3) := by decide +kernel
theorem dX12_openLoop_40 : decode cX12_openLoop 40 = .ok (.aload_n 0, 1) := by decide +kernel
theorem dX12_openLoop_41 : decode cX12_openLoop 41 = .ok (.getfield 130, 3) := by decide +kernel
theorem dX12_openLoop_44 : decode cX12_openLoop 44 = .ok (.ifCond .eq 7, 3) := by decide +kernel
theorem dX12_openLoop_47 : decode cX12_openLoop 47 = .ok (.iconst 2, 1) := by decide +kernel
theorem dX12_openLoop_48 : decode cX12_openLoop 48 = .ok (.goto 4, 3) := by decide +kernel
theorem dX12_openLoop_51 : decode cX12_openLoop 51 = .ok (.iconst 0, 1) := by decide +kernel
theorem dX12_openLoop_52 : decode cX12_openLoop 52 = .ok (.invokevirtual 126, 3) := by decide +kernel
theorem dX12_openLoop_55 : decode cX12_openLoop 55 = .ok (.ifCond .ne 4, 3) := by decide +kernel
theorem dX12_openLoop_58 : decode cX12_openLoop 58 = .ok (.return_, 1) := by decide +kernel
theorem dX12_openLoop_59 : decode cX12_openLoop 59 = .ok (.aload_n 0, 1) := by decide +kernel
theorem dX12_openLoop_60 : decode cX12_openLoop 60 = .ok (.getfield 23, 3) := by decide +kernel
theorem dX12_openLoop_63 : decode cX12_openLoop 63 = .ok (.aload_n 0, 1) := by decide +kernel
theorem dX12_openLoop_64 : decode cX12_openLoop 64 = .ok (.getfield 134, 3) := by decide +kernel
theorem dX12_openLoop_67 : decode cX12_openLoop 67 = .ok (.iconst 1, 1) := by decide +kernel
theorem dX12_openLoop_68 : decode cX12_openLoop 68 = .ok (.bastore, 1) := by decide +kernel
theorem dX12_openLoop_69 : decode cX12_openLoop 69 = .ok (.aload_n 0, 1) := by decide +kernel
theorem dX12_openLoop_70 : decode cX12_openLoop 70 = .ok (.getfield 27, 3) := by decide +kernel
theorem dX12_openLoop_73 : decode cX12_openLoop 73 = .ok (.aload_n 0, 1) := by decide +kernel
theorem dX12_openLoop_74 : decode cX12_openLoop 74 = .ok (.getfield 134, 3) := by decide +kernel
theorem dX12_openLoop_77 : decode cX12_openLoop 77 = .ok (.aload_n 0, 1) := by decide +kernel
theorem dX12_openLoop_78 : decode cX12_openLoop 78 = .ok (.getfield 123, 3) := by decide +kernel
theorem dX12_openLoop_81 : decode cX12_openLoop 81 = .ok (.iastore, 1) := by decide +kernel
theorem dX12_openLoop_82 : decode cX12_openLoop 82 = .ok (.aload_n 0, 1) := by decide +kernel
theorem dX12_openLoop_83 : decode cX12_openLoop 83 = .ok (.getfield 30, 3) := by decide +kernel
theorem dX12_openLoop_86 : decode cX12_openLoop 86 = .ok (.aload_n 0, 1) := by decide +kernel
theorem dX12_openLoop_87 : decode cX12_openLoop 87 = .ok (.getfield 134, 3) := by decide +kernel
theorem dX12_openLoop_90 : decode cX12_openLoop 90 = .ok (.aload_n 0, 1) := by decide +kernel
theorem dX12_openLoop_91 : decode cX12_openLoop 91 = .ok (.getfield 123, 3) := by decide +kernel
theorem dX12_openLoop_94 : decode cX12_openLoop 94 = .ok (.iconst 1, 1) := by decide +kernel
theorem dX12_openLoop_95 : decode cX12_openLoop 95 = .ok (.isub, 1) := by decide +kernel
theorem dX12_openLoop_96 : decode cX12_openLoop 96 = .ok (.iastore, 1) := by decide +kernel
theorem dX12_openLoop_97 : decode cX12_openLoop 97 = .ok (.aload_n 0, 1) := by decide +kernel
theorem dX12_openLoop_98 : decode cX12_openLoop 98 = .ok (.getfield 33, 3) := by decide +kernel
theorem dX12_openLoop_101 : decode cX12_openLoop 101 = .ok (.aload_n 0, 1) := by decide +kernel
theorem dX12_openLoop_102 : decode cX12_openLoop 102 = .ok (.getfield 134, 3) := by decide +kernel
theorem dX12_openLoop_105 : decode cX12_openLoop 105 = .ok (.iload_n 1, 1) := by decide +kernel
theorem dX12_openLoop_106 : decode cX12_openLoop 106 = .ok (.iastore, 1) := by decide +kernel
theorem dX12_openLoop_107 : decode cX12_openLoop 107 = .ok (.aload_n 0, 1) := by decide +kernel
theorem dX12_openLoop_108 : decode cX12_openLoop 108 = .ok (.getfield 36, 3) := by decide +kernel
theorem dX12_openLoop_111 : decode cX12_openLoop 111 = .ok (.aload_n 0, 1) := by decide +kernel
theorem dX12_openLoop_112 : decode cX12_openLoop 112 = .ok (.getfield 134, 3) := by decide +kernel
theorem dX12_openLoop_115 : decode cX12_openLoop 115 = .ok (.iload_n 2, 1) := by decide +kernel
theorem dX12_openLoop_116 : decode cX12_openLoop 116 = .ok (.iastore, 1) := by decide +kernel
theorem dX12_openLoop_117 : decode cX12_openLoop 117 = .ok (.aload_n 0, 1) := by decide +kernel
theorem dX12_openLoop_118 : decode cX12_openLoop 118 = .ok (.dup, 1) := by decide +kernel
theorem dX12_openLoop_119 : decode cX12_openLoop 119 = .ok (.getfield 134, 3) := by decide +kernel
theorem dX12_openLoop_122 : decode cX12_openLoop 122 = .ok (.iconst 1, 1) := by decide +kernel
theorem dX12_openLoop_123 : decode cX12_openLoop 123 = .ok (.iadd, 1) := by decide +kernel
theorem dX12_openLoop_124 : decode cX12_openLoop 124 = .ok (.putfield 134, 3) := by decide +kernel
theorem dX12_openLoop_127 : decode cX12_openLoop 127 = .ok (.aload_n 0, 1) := by decide +kernel
theorem dX12_openLoop_128 : decode cX12_openLoop 128 = .ok (.iconst 1, 1) := by decide +kernel
theorem dX12_openLoop_129 : decode cX12_openLoop 129 = .ok (.putfield 130, 3) := by decide +kernel
theorem dX12_openLoop_132 : decode cX12_openLoop 132 = .ok (.return_, 1) := by decide +kernel
theorem dX12_closeLoop_0 : decode cX12_closeLoop 0 = .ok (.aload_n 0, 1) := by decide +kernel
theorem dX12_closeLoop_1 : decode cX12_closeLoop 1 = .ok (.getfield 134, 3) := by decide +kernel
theorem dX12_closeLoop_4 : decode cX12_closeLoop 4 = .ok (.ifCond .ne 7, 3) := by decide +kernel
theorem dX12_closeLoop_7 : decode cX12_closeLoop 7 = .ok (.iconst 0, 1) := by decide +kernel
theorem dX12_closeLoop_8 : decode cX12_closeLoop 8 = .ok (.goto 28, 3) := by decide +kernel
theorem dX12_closeLoop_11 : decode cX12_closeLoop 11 = .ok (.aload_n 0, 1) := by decide +kernel
theorem dX12_closeLoop_12 : decode cX12_closeLoop 12 = .ok (.getfield 30, 3) := by decide +kernel
theorem dX12_closeLoop_15 : decode cX12_closeLoop 15 = .ok (.aload_n 0, 1) := by decide +kernel
theorem dX12_closeLoop_16 : decode cX12_closeLoop 16 = .ok (.getfield 134, 3) := by decide +kernel
theorem dX12_closeLoop_19 : decode cX12_closeLoop 19 = .ok (.iconst 1, 1) := by decide +kernel
theorem dX12_closeLoop_20 : decode cX12_closeLoop 20 = .ok (.isub, 1) := by decide +kernel
theorem dX12_closeLoop_21 : decode cX12_closeLoop 21 = .ok (.iaload, 1) := by decide +kernel
theorem dX12_closeLoop_22 : decode cX12_closeLoop 22 = .ok (.aload_n 0, 1) := by decide +kernel
theorem dX12_closeLoop_23 : decode cX12_closeLoop 23 = .ok (.getfield 27, 3) := by decide +kernel
theorem dX12_closeLoop_26 : decode cX12_closeLoop 26 = .ok (.aload_n 0, 1) := by decide +kernel
theorem dX12_closeLoop_27 : decode cX12_closeLoop 27 = .ok (.getfield 134, 3) := by decide +kernel
theorem dX12_closeLoop_30 : decode cX12_closeLoop 30 = .ok (.iconst 1, 1) := by decide +kernel
theorem dX12_closeLoop_31 : decode cX12_closeLoop 31 = .ok (.isub, 1) := by decide +kernel
theorem dX12_closeLoop_32 : decode cX12_closeLoop 32 = .ok (.iaload, 1) := by decide +kernel
theorem dX12_closeLoop_33 : decode cX12_closeLoop 33 = .ok (.isub, 1) := by decide +kernel
theorem dX12_closeLoop_34 : decode cX12_closeLoop 34 = .ok (.iconst 1, 1) := by decide +kernel
theorem dX12_closeLoop_35 : decode cX12_closeLoop 35 = .ok (.iadd, 1) := by decide +kernel
theorem dX12_closeLoop_36 : decode cX12_closeLoop 36 = .ok (.istore_n 1, 1) := by decide +kernel
theorem dX12_closeLoop_37 : decode cX12_closeLoop 37 = .ok (.aload_n 0, 1) := by decide +kernel
theorem dX12_closeLoop_38 : decode cX12_closeLoop 38 = .ok (.aload_n 0, 1) := by decide +kernel
theorem dX12_closeLoop_39 : decode cX12_closeLoop 39 = .ok (.getfield 130, 3) := by decide +kernel
theorem dX12_closeLoop_42 : decode cX12_closeLoop 42 = .ok (.ifCond .eq 7, 3) := by decide +kernel
theorem dX12_closeLoop_45 : decode cX12_closeLoop 45 = .ok (.iload_n 1, 1) := by decide +kernel
theorem dX12_closeLoop_46 : decode cX12_closeLoop 46 = .ok (.ifCond .ne 7, 3) := by decide +kernel
theorem dX12_closeLoop_49 : decode cX12_closeLoop 49 = .ok (.iconst 1, 1) := by decide +kernel
theorem dX12_closeLoop_50 : decode cX12_closeLoop 50 = .ok (.goto 4, 3) := by decide +kernel
theorem dX12_closeLoop_53 : decode cX12_closeLoop 53 = .ok (.iconst 0, 1) := by decide +kernel
theorem dX12_closeLoop_54 : decode cX12_closeLoop 54 = .ok (.invokevirtual 126, 3) := by decide +kernel
theorem dX12_closeLoop_57 : decode cX12_closeLoop 57 = .ok (.ifCond .ne 5, 3) := by decide +kernel
theorem dX12_closeLoop_60 : decode cX12_closeLoop 60 = .ok (.iconst 0, 1) := by decide +kernel
theorem dX12_closeLoop_61 : decode cX12_closeLoop 61 = .ok (.ireturn, 1) := by decide +kernel
theorem dX12_closeLoop_62 : decode cX12_closeLoop 62 = .ok (.aload_n 0, 1) := by decide +kernel
theorem dX12_closeLoop_63 : decode cX12_closeLoop 63 = .ok (.iconst 0, 1) := by decide +kernel
theorem dX12_closeLoop_64 : decode cX12_closeLoop 64 = .ok (.putfield 130, 3) := by decide +kernel
theorem dX12_closeLoop_67 : decode cX12_closeLoop 67 = .ok (.iload_n 1, 1) := by decide +kernel
theorem dX12_closeLoop_68 : decode cX12_closeLoop 68 = .ok (.ireturn, 1) := by decide +kernel
theorem dX12_clear_0 : decode cX12_clear 0 = .ok (.aload_n 0, 1) := by decide +kernel
theorem dX12_clear_1 : decode cX12_clear 1 = .ok (.iconst 0, 1) := by decide +kernel
theorem dX12_clear_2 : decode cX12_clear 2 = .ok (.putfield 111, 3) := by decide +kernel
theorem dX12_clear_5 : decode cX12_clear 5 = .ok (.aload_n 0, 1) := by decide +kernel
theorem dX12_clear_6 : decode cX12_clear 6 = .ok (.iconst 0, 1) := by decide +kernel
theorem dX12_clear_7 : decode cX12_clear 7 = .ok (.putfield 123, 3) := by decide +kernel
theorem dX12_clear_10 : decode cX12_clear 10 = .ok (.aload_n 0, 1) := by decide +kernel
theorem dX12_clear_11 : decode cX12_clear 11 = .ok (.iconst 0, 1) := by decide +kernel
theorem dX12_clear_12 : decode cX12_clear 12 = .ok (.putfield 134, 3) := by decide +kernel
theorem dX12_clear_15 : decode cX12_clear 15 = .ok (.aload_n 0, 1) := by decide +kernel
theorem dX12_clear_16 : decode cX12_clear 16 = .ok (.iconst 0, 1) := by decide +kernel
theorem dX12_clear_17 : decode cX12_clear 17 = .ok (.putfield 130, 3) := by decide +kernel
theorem dX12_clear_20 : decode cX12_clear 20 = .ok (.aload_n 0, 1) := by decide +kernel
theorem dX12_clear_21 : decode cX12_clear 21 = .ok (.iconst 0, 1) := by decide +kernel
theorem dX12_clear_22 : decode cX12_clear 22 = .ok (.putfield 137, 3) := by decide +kernel
theorem dX12_clear_25 : decode cX12_clear 25 = .ok (.aload_n 0, 1) := by decide +kernel
theorem dX12_clear_26 : decode cX12_clear 26 = .ok (.iconst 0, 1) := by decide +kernel
theorem dX12_clear_27 : decode cX12_clear 27 = .ok (.putfield 140, 3) := by decide +kernel
theorem dX12_clear_30 : decode cX12_clear 30 = .ok (.return_, 1) := by decide +kernel
theorem dX12_items_0 : decode cX12_items 0 = .ok (.aload_n 0, 1) := by decide +kernel
theorem dX12_items_1 : decode cX12_items 1 = .ok (.iconst 0, 1) := by decide +kernel
theorem dX12_items_2 : decode cX12_items 2 = .ok (.putfield 111, 3) := by decide +kernel
theorem dX12_items_5 : decode cX12_items 5 = .ok (.aload_n 0, 1) := by decide +kernel
theorem dX12_items_6 : decode cX12_items 6 = .ok (.getfield 123, 3) := by decide +kernel
theorem dX12_items_9 : decode cX12_items 9 = .ok (.ireturn, 1) := by decide +kernel
theorem dX12_feed_0 : decode cX12_feed 0 = .ok (.aload_n 0, 1) := by decide +kernel
theorem dX12_feed_1 : decode cX12_feed 1 = .ok (.iload_n 1, 1) := by decide +kernel
theorem dX12_feed_2 : decode cX12_feed 2 = .ok (.bipush 32, 2) := by decide +kernel
theorem dX12_feed_4 : decode cX12_feed 4 = .ok (.bipush 126, 2) := by decide +kernel
theorem dX12_feed_6 : decode cX12_feed 6 = .ok (.invokestatic 115, 3) := by decide +kernel
theorem dX12_feed_9 : decode cX12_feed 9 = .ok (.ifCond .ne 7, 3) := by decide +kernel
theorem dX12_feed_12 : decode cX12_feed 12 = .ok (.iconst 1, 1) := by decide +kernel
theorem dX12_feed_13 : decode cX12_feed 13 = .ok (.goto 18, 3) := by decide +kernel
theorem dX12_feed_16 : decode cX12_feed 16 = .ok (.aload_n 0, 1) := by decide +kernel
theorem dX12_feed_17 : decode cX12_feed 17 = .ok (.getfield 143, 3) := by decide +kernel
theorem dX12_feed_20 : decode cX12_feed 20 = .ok (.sipush 300, 3) := by decide +kernel
theorem dX12_feed_23 : decode cX12_feed 23 = .ok (.if_icmp .ne 7, 3) := by decide +kernel
theorem dX12_feed_26 : decode cX12_feed 26 = .ok (.iconst 2, 1) := by decide +kernel
theorem dX12_feed_27 : decode cX12_feed 27 = .ok (.goto 4, 3) := by decide +kernel
theorem dX12_feed_30 : decode cX12_feed 30 = .ok (.iconst 0, 1) := by decide +kernel
theorem dX12_feed_31 : decode cX12_feed 31 = .ok (.invokevirtual 126, 3) := by decide +kernel
theorem dX12_feed_34 : decode cX12_feed 34 = .ok (.ifCond .ne 5, 3) := by decide +kernel
theorem dX12_feed_37 : decode cX12_feed 37 = .ok (.iconst 0, 1) := by decide +kernel
theorem dX12_feed_38 : decode cX12_feed 38 = .ok (.ireturn, 1) := by decide +kernel
theorem dX12_feed_39 : decode cX12_feed 39 = .ok (.aload_n 0, 1) := by decide +kernel
theorem dX12_feed_40 : decode cX12_feed 40 = .ok (.getfield 39, 3) := by decide +kernel
theorem dX12_feed_43 : decode cX12_feed 43 = .ok (.aload_n 0, 1) := by decide +kernel
theorem dX12_feed_44 : decode cX12_feed 44 = .ok (.getfield 143, 3) := by decide +kernel
theorem dX12_feed_47 : decode cX12_feed 47 = .ok (.iload_n 1, 1) := by decide +kernel
theorem dX12_feed_48 : decode cX12_feed 48 = .ok (.castore, 1) := by decide +kernel
theorem dX12_feed_49 : decode cX12_feed 49 = .ok (.aload_n 0, 1) := by decide +kernel
theorem dX12_feed_50 : decode cX12_feed 50 = .ok (.dup, 1) := by decide +kernel
theorem dX12_feed_51 : decode cX12_feed 51 = .ok (.getfield 143, 3) := by decide +kernel
theorem dX12_feed_54 : decode cX12_feed 54 = .ok (.iconst 1, 1) := by decide +kernel
theorem dX12_feed_55 : decode cX12_feed 55 = .ok (.iadd, 1) := by decide +kernel
theorem dX12_feed_56 : decode cX12_feed 56 = .ok (.putfield 143, 3) := by decide +kernel
theorem dX12_feed_59 : decode cX12_feed 59 = .ok (.aload_n 0, 1) := by decide +kernel
theorem dX12_feed_60 : decode cX12_feed 60 = .ok (.getfield 143, 3) := by decide +kernel
theorem dX12_feed_63 : decode cX12_feed 63 = .ok (.ireturn, 1) := by decide +kernel
theorem dX12_discard_0 : decode cX12_discard 0 = .ok (.aload_n 0, 1) := by decide +kernel
theorem dX12_discard_1 : decode cX12_discard 1 = .ok (.iconst 0, 1) := by decide +kernel
theorem dX12_discard_2 : decode cX12_discard 2 = .ok (.putfield 111, 3) := by decide +kernel
theorem dX12_discard_5 : decode cX12_discard 5 = .ok (.aload_n 0, 1) := by decide +kernel
theorem dX12_discard_6 : decode cX12_discard 6 = .ok (.getfield 143, 3) := by decide +kernel
theorem dX12_discard_9 : decode cX12_discard 9 = .ok (.istore_n 1, 1) := by decide +kernel
theorem dX12_discard_10 : decode cX12_discard 10 = .ok (.aload_n 0, 1) := by decide +kernel
theorem dX12_discard_11 : decode cX12_discard 11 = .ok (.iconst 0, 1) := by decide +kernel
theorem dX12_discard_12 : decode cX12_discard 12 = .ok (.putfield 143, 3) := by decide +kernel
theorem dX12_discard_15 : decode cX12_discard 15 = .ok (.iload_n 1, 1) := by decide +kernel
theorem dX12_discard_16 : decode cX12_discard 16 = .ok (.ireturn, 1) := by decide +kernel
theorem dX12_length_0 : decode cX12_length 0 = .ok (.aload_n 0, 1) := by decide +kernel
theorem dX12_length_1 : decode cX12_length 1 = .ok (.iconst 0, 1) := by decide +kernel
theorem dX12_length_2 : decode cX12_length 2 = .ok (.putfield 111, 3) := by decide +kernel
theorem dX12_length_5 : decode cX12_length 5 = .ok (.aload_n 0, 1) := by decide +kernel
theorem dX12_length_6 : decode cX12_length 6 = .ok (.getfield 143, 3) := by decide +kernel
theorem dX12_length_9 : decode cX12_length 9 = .ok (.ireturn, 1) := by decide +kernel
theorem dX12_fault_0 : decode cX12_fault 0 = .ok (.aload_n 0, 1) := by decide +kernel
theorem dX12_fault_1 : decode cX12_fault 1 = .ok (.getfield 42, 3) := by decide +kernel
theorem dX12_fault_4 : decode cX12_fault 4 = .ok (.aload_n 0, 1) := by decide +kernel
theorem dX12_fault_5 : decode cX12_fault 5 = .ok (.getfield 146, 3) := by decide +kernel
theorem dX12_fault_8 : decode cX12_fault 8 = .ok (.iload_n 1, 1) := by decide +kernel
theorem dX12_fault_9 : decode cX12_fault 9 = .ok (.iastore, 1) := by decide +kernel
theorem dX12_fault_10 : decode cX12_fault 10 = .ok (.aload_n 0, 1) := by decide +kernel
theorem dX12_fault_11 : decode cX12_fault 11 = .ok (.getfield 45, 3) := by decide +kernel
theorem dX12_fault_14 : decode cX12_fault 14 = .ok (.aload_n 0, 1) := by decide +kernel
theorem dX12_fault_15 : decode cX12_fault 15 = .ok (.getfield 146, 3) := by decide +kernel
theorem dX12_fault_18 : decode cX12_fault 18 = .ok (.iload_n 2, 1) := by decide +kernel
theorem dX12_fault_19 : decode cX12_fault 19 = .ok (.iastore, 1) := by decide +kernel
theorem dX12_fault_20 : decode cX12_fault 20 = .ok (.aload_n 0, 1) := by decide +kernel
theorem dX12_fault_21 : decode cX12_fault 21 = .ok (.dup, 1) := by decide +kernel
theorem dX12_fault_22 : decode cX12_fault 22 = .ok (.getfield 146, 3) := by decide +kernel
theorem dX12_fault_25 : decode cX12_fault 25 = .ok (.iconst 1, 1) := by decide +kernel
theorem dX12_fault_26 : decode cX12_fault 26 = .ok (.iadd, 1) := by decide +kernel
theorem dX12_fault_27 : decode cX12_fault 27 = .ok (.putfield 146, 3) := by decide +kernel
theorem dX12_fault_30 : decode cX12_fault 30 = .ok (.return_, 1) := by decide +kernel
theorem dX12_endOf_0 : decode cX12_endOf 0 = .ok (.iload_n 1, 1) := by decide +kernel
theorem dX12_endOf_1 : decode cX12_endOf 1 = .ok (.istore_n 2, 1) := by decide +kernel
theorem dX12_endOf_2 : decode cX12_endOf 2 = .ok (.iload_n 2, 1) := by decide +kernel
theorem dX12_endOf_3 : decode cX12_endOf 3 = .ok (.aload_n 0, 1) := by decide +kernel
theorem dX12_endOf_4 : decode cX12_endOf 4 = .ok (.getfield 143, 3) := by decide +kernel
theorem dX12_endOf_7 : decode cX12_endOf 7 = .ok (.if_icmp .ge 36, 3) := by decide +kernel
theorem dX12_endOf_10 : decode cX12_endOf 10 = .ok (.aload_n 0, 1) := by decide +kernel
theorem dX12_endOf_11 : decode cX12_endOf 11 = .ok (.getfield 39, 3) := by decide +kernel
theorem dX12_endOf_14 : decode cX12_endOf 14 = .ok (.iload_n 2, 1) := by decide +kernel
theorem dX12_endOf_15 : decode cX12_endOf 15 = .ok (.caload, 1) := by decide +kernel
theorem dX12_endOf_16 : decode cX12_endOf 16 = .ok (.bipush 39, 2) := by decide +kernel
theorem dX12_endOf_18 : decode cX12_endOf 18 = .ok (.if_icmp .eq 25, 3) := by decide +kernel
theorem dX12_endOf_21 : decode cX12_endOf 21 = .ok (.iload_n 2, 1) := by decide +kernel
theorem dX12_endOf_22 : decode cX12_endOf 22 = .ok (.aload_n 0, 1) := by decide +kernel
theorem dX12_endOf_23 : decode cX12_endOf 23 = .ok (.getfield 39, 3) := by decide +kernel
theorem dX12_endOf_26 : decode cX12_endOf 26 = .ok (.iload_n 2, 1) := by decide +kernel
theorem dX12_endOf_27 : decode cX12_endOf 27 = .ok (.caload, 1) := by decide +kernel
theorem dX12_endOf_28 : decode cX12_endOf 28 = .ok (.bipush 63, 2) := by decide +kernel
theorem dX12_endOf_30 : decode cX12_endOf 30 = .ok (.if_icmp .ne 7, 3) := by decide +kernel
theorem dX12_endOf_33 : decode cX12_endOf 33 = .ok (.iconst 2, 1) := by decide +kernel
theorem dX12_endOf_34 : decode cX12_endOf 34 = .ok (.goto 4, 3) := by decide +kernel
theorem dX12_endOf_37 : decode cX12_endOf 37 = .ok (.iconst 1, 1) := by decide +kernel
theorem dX12_endOf_38 : decode cX12_endOf 38 = .ok (.iadd, 1) := by decide +kernel
theorem dX12_endOf_39 : decode cX12_endOf 39 = .ok (.istore_n 2, 1) := by decide +kernel
theorem dX12_endOf_40 : decode cX12_endOf 40 = .ok (.goto (-38), 3) := by decide +kernel
theorem dX12_endOf_43 : decode cX12_endOf 43 = .ok (.iload_n 2, 1) := by decide +kernel
theorem dX12_endOf_44 : decode cX12_endOf 44 = .ok (.aload_n 0, 1) := by decide +kernel
theorem dX12_endOf_45 : decode cX12_endOf 45 = .ok (.getfield 143, 3) := by decide +kernel
theorem dX12_endOf_48 : decode cX12_endOf 48 = .ok (.if_icmp .ge 7, 3) := by decide +kernel
theorem dX12_endOf_51 : decode cX12_endOf 51 = .ok (.iload_n 2, 1) := by decide +kernel
theorem dX12_endOf_52 : decode cX12_endOf 52 = .ok (.goto 7, 3) := by decide +kernel
theorem dX12_endOf_55 : decode cX12_endOf 55 = .ok (.aload_n 0, 1) := by decide +kernel
theorem dX12_endOf_56 : decode cX12_endOf 56 = .ok (.getfield 143, 3) := by decide +kernel
theorem dX12_endOf_59 : decode cX12_endOf 59 = .ok (.ireturn, 1) := by decide +kernel
theorem dX12_parts_0 : decode cX12_parts 0 = .ok (.aload_n 0, 1) := by decide +kernel
theorem dX12_parts_1 : decode cX12_parts 1 = .ok (.getfield 149, 3) := by decide +kernel
theorem dX12_parts_4 : decode cX12_parts 4 = .ok (.istore_n 3, 1) := by decide +kernel
theorem dX12_parts_5 : decode cX12_parts 5 = .ok (.aload_n 0, 1) := by decide +kernel
theorem dX12_parts_6 : decode cX12_parts 6 = .ok (.getfield 48, 3) := by decide +kernel
theorem dX12_parts_9 : decode cX12_parts 9 = .ok (.iload_n 3, 1) := by decide +kernel
theorem dX12_parts_10 : decode cX12_parts 10 = .ok (.iload_n 1, 1) := by decide +kernel
theorem dX12_parts_11 : decode cX12_parts 11 = .ok (.iastore, 1) := by decide +kernel
theorem dX12_parts_12 : decode cX12_parts 12 = .ok (.iconst 0, 1) := by decide +kernel
theorem dX12_parts_13 : decode cX12_parts 13 = .ok (.istore 4, 2) := by decide +kernel
theorem dX12_parts_15 : decode cX12_parts 15 = .ok (.iconst 0, 1) := by decide +kernel
theorem dX12_parts_16 : decode cX12_parts 16 = .ok (.istore 5, 2) := by decide +kernel
theorem dX12_parts_18 : decode cX12_parts 18 = .ok (.bipush 32, 2) := by decide +kernel
theorem dX12_parts_20 : decode cX12_parts 20 = .ok (.istore 6, 2) := by decide +kernel
theorem dX12_parts_22 : decode cX12_parts 22 = .ok (.iload_n 1, 1) := by decide +kernel
theorem dX12_parts_23 : decode cX12_parts 23 = .ok (.istore 7, 2) := by decide +kernel
theorem dX12_parts_25 : decode cX12_parts 25 = .ok (.iload 7, 2) := by decide +kernel
theorem dX12_parts_27 : decode cX12_parts 27 = .ok (.iload_n 2, 1) := by decide +kernel
theorem dX12_parts_28 : decode cX12_parts 28 = .ok (.if_icmp .ge 55, 3) := by decide +kernel
theorem dX12_parts_31 : decode cX12_parts 31 = .ok (.aload_n 0, 1) := by decide +kernel
theorem dX12_parts_32 : decode cX12_parts 32 = .ok (.getfield 39, 3) := by decide +kernel
theorem dX12_parts_35 : decode cX12_parts 35 = .ok (.iload 7, 2) := by decide +kernel
theorem dX12_parts_37 : decode cX12_parts 37 = .ok (.caload, 1) := by decide +kernel
theorem dX12_parts_38 : decode cX12_parts 38 = .ok (.bipush 43, 2) := by decide +kernel
theorem dX12_parts_40 : decode cX12_parts 40 = .ok (.if_icmp .eq 43, 3) := by decide +kernel
theorem dX12_parts_43 : decode cX12_parts 43 = .ok (.iload 7, 2) := by decide +kernel
theorem dX12_parts_45 : decode cX12_parts 45 = .ok (.aload_n 0, 1) := by decide +kernel
theorem dX12_parts_46 : decode cX12_parts 46 = .ok (.getfield 39, 3) := by decide +kernel
theorem dX12_parts_49 : decode cX12_parts 49 = .ok (.iload 7, 2) := by decide +kernel
theorem dX12_parts_51 : decode cX12_parts 51 = .ok (.caload, 1) := by decide +kernel
theorem dX12_parts_52 : decode cX12_parts 52 = .ok (.bipush 63, 2) := by decide +kernel
theorem dX12_parts_54 : decode cX12_parts 54 = .ok (.if_icmp .ne 7, 3) := by decide +kernel
theorem dX12_parts_57 : decode cX12_parts 57 = .ok (.iconst 1, 1) := by decide +kernel
theorem dX12_parts_58 : decode cX12_parts 58 = .ok (.goto 4, 3) := by decide +kernel
theorem dX12_parts_61 : decode cX12_parts 61 = .ok (.iconst 0, 1) := by decide +kernel
theorem dX12_parts_62 : decode cX12_parts 62 = .ok (.iadd, 1) := by decide +kernel
theorem dX12_parts_63 : decode cX12_parts 63 = .ok (.istore 7, 2) := by decide +kernel
theorem dX12_parts_65 : decode cX12_parts 65 = .ok (.aload_n 0, 1) := by decide +kernel
theorem dX12_parts_66 : decode cX12_parts 66 = .ok (.getfield 39, 3) := by decide +kernel
theorem dX12_parts_69 : decode cX12_parts 69 = .ok (.iload 7, 2) := by decide +kernel
theorem dX12_parts_71 : decode cX12_parts 71 = .ok (.caload, 1) := by decide +kernel
theorem dX12_parts_72 : decode cX12_parts 72 = .ok (.istore 6, 2) := by decide +kernel
theorem dX12_parts_74 : decode cX12_parts 74 = .ok (.iinc 5 1, 3) := by decide +kernel
theorem dX12_parts_77 : decode cX12_parts 77 = .ok (.iinc 7 1, 3) := by decide +kernel
theorem dX12_parts_80 : decode cX12_parts 80 = .ok (.goto (-55), 3) := by decide +kernel
theorem dX12_parts_83 : decode cX12_parts 83 = .ok (.aload_n 0, 1) := by decide +kernel
theorem dX12_parts_84 : decode cX12_parts 84 = .ok (.getfield 51, 3) := by decide +kernel
theorem dX12_parts_87 : decode cX12_parts 87 = .ok (.iload_n 3, 1) := by decide +kernel
theorem dX12_parts_88 : decode cX12_parts 88 = .ok (.iload 6, 2) := by decide +kernel
theorem dX12_parts_90 : decode cX12_parts 90 = .ok (.castore, 1) := by decide +kernel
theorem dX12_parts_91 : decode cX12_parts 91 = .ok (.iload 5, 2) := by decide +kernel
theorem dX12_parts_93 : decode cX12_parts 93 = .ok (.iconst 1, 1) := by decide +kernel
theorem dX12_parts_94 : decode cX12_parts 94 = .ok (.if_icmp .ne 15, 3) := by decide +kernel
theorem dX12_parts_97 : decode cX12_parts 97 = .ok (.iload 6, 2) := by decide +kernel
theorem dX12_parts_99 : decode cX12_parts 99 = .ok (.bipush 65, 2) := by decide +kernel
theorem dX12_parts_101 : decode cX12_parts 101 = .ok (.bipush 90, 2) := by decide +kernel
theorem dX12_parts_103 : decode cX12_parts 103 = .ok (.invokestatic 115, 3) := by decide +kernel
theorem dX12_parts_106 : decode cX12_parts 106 = .ok (.ifCond .ne 9, 3) := by decide +kernel
theorem dX12_parts_109 : decode cX12_parts 109 = .ok (.aload_n 0, 1) := by decide +kernel
theorem dX12_parts_110 : decode cX12_parts 110 = .ok (.iconst 2, 1) := by decide +kernel
theorem dX12_parts_111 : decode cX12_parts 111 = .ok (.iload_n 1, 1) := by decide +kernel
theorem dX12_parts_112 : decode cX12_parts 112 = .ok (.invokevirtual 152, 3) := by decide +kernel
theorem dX12_parts_115 : decode cX12_parts 115 = .ok (.iload 7, 2) := by decide +kernel
theorem dX12_parts_117 : decode cX12_parts 117 = .ok (.iload_n 2, 1) := by decide +kernel
theorem dX12_parts_118 : decode cX12_parts 118 = .ok (.if_icmp .ge 132, 3) := by decide +kernel
theorem dX12_parts_121 : decode cX12_parts 121 = .ok (.iload 4, 2) := by decide +kernel
theorem dX12_parts_123 : decode cX12_parts 123 = .ok (.iconst 5, 1) := by decide +kernel
theorem dX12_parts_124 : decode cX12_parts 124 = .ok (.if_icmp .ge 126, 3) := by decide +kernel
theorem dX12_parts_127 : decode cX12_parts 127 = .ok (.iinc 7 1, 3) := by decide +kernel
theorem dX12_parts_130 : decode cX12_parts 130 = .ok (.iload 7, 2) := by decide +kernel
theorem dX12_parts_132 : decode cX12_parts 132 = .ok (.istore 8, 2) := by decide +kernel
theorem dX12_parts_134 : decode cX12_parts 134 = .ok (.iconst 0, 1) := by decide +kernel
theorem dX12_parts_135 : decode cX12_parts 135 = .ok (.istore 5, 2) := by decide +kernel
theorem dX12_parts_137 : decode cX12_parts 137 = .ok (.iload 7, 2) := by decide +kernel
theorem dX12_parts_139 : decode cX12_parts 139 = .ok (.iload_n 2, 1) := by decide +kernel
theorem dX12_parts_140 : decode cX12_parts 140 = .ok (.if_icmp .ge 77, 3) := by decide +kernel
theorem dX12_parts_143 : decode cX12_parts 143 = .ok (.aload_n 0, 1) := by decide +kernel
theorem dX12_parts_144 : decode cX12_parts 144 = .ok (.getfield 39, 3) := by decide +kernel
theorem dX12_parts_147 : decode cX12_parts 147 = .ok (.iload 7, 2) := by decide +kernel
theorem dX12_parts_149 : decode cX12_parts 149 = .ok (.caload, 1) := by decide +kernel
theorem dX12_parts_150 : decode cX12_parts 150 = .ok (.bipush 43, 2) := by decide +kernel
theorem dX12_parts_152 : decode cX12_parts 152 = .ok (.if_icmp .eq 65, 3) := by decide +kernel
theorem dX12_parts_155 : decode cX12_parts 155 = .ok (.iload 7, 2) := by decide +kernel
theorem dX12_parts_157 : decode cX12_parts 157 = .ok (.aload_n 0, 1) := by decide +kernel
theorem dX12_parts_158 : decode cX12_parts 158 = .ok (.getfield 39, 3) := by decide +kernel
theorem dX12_parts_161 : decode cX12_parts 161 = .ok (.iload 7, 2) := by decide +kernel
theorem dX12_parts_163 : decode cX12_parts 163 = .ok (.caload, 1) := by decide +kernel
theorem dX12_parts_164 : decode cX12_parts 164 = .ok (.bipush 63, 2) := by decide +kernel
theorem dX12_parts_166 : decode cX12_parts 166 = .ok (.if_icmp .ne 7, 3) := by decide +kernel
theorem dX12_parts_169 : decode cX12_parts 169 = .ok (.iconst 1, 1) := by decide +kernel
theorem dX12_parts_170 : decode cX12_parts 170 = .ok (.goto 4, 3) := by decide +kernel
theorem dX12_parts_173 : decode cX12_parts 173 = .ok (.iconst 0, 1) := by decide +kernel
theorem dX12_parts_174 : decode cX12_parts 174 = .ok (.iadd, 1) := by decide +kernel
theorem dX12_parts_175 : decode cX12_parts 175 = .ok (.istore 7, 2) := by decide +kernel
theorem dX12_parts_177 : decode cX12_parts 177 = .ok (.iload 5, 2) := by decide +kernel
theorem dX12_parts_179 : decode cX12_parts 179 = .ok (.bipush 8, 2) := by decide +kernel
theorem dX12_parts_181 : decode cX12_parts 181 = .ok (.if_icmp .ge 27, 3) := by decide +kernel
theorem dX12_parts_184 : decode cX12_parts 184 = .ok (.aload_n 0, 1) := by decide +kernel
theorem dX12_parts_185 : decode cX12_parts 185 = .ok (.getfield 60, 3) := by decide +kernel
theorem dX12_parts_188 : decode cX12_parts 188 = .ok (.bipush 8, 2) := by decide +kernel
theorem dX12_parts_190 : decode cX12_parts 190 = .ok (.iconst 5, 1) := by decide +kernel
theorem dX12_parts_191 : decode cX12_parts 191 = .ok (.iload_n 3, 1) := by decide +kernel
theorem dX12_parts_192 : decode cX12_parts 192 = .ok (.imul, 1) := by decide +kernel
theorem dX12_parts_193 : decode cX12_parts 193 = .ok (.iload 4, 2) := by decide +kernel
theorem dX12_parts_195 : decode cX12_parts 195 = .ok (.iadd, 1) := by decide +kernel
theorem dX12_parts_196 : decode cX12_parts 196 = .ok (.imul, 1) := by decide +kernel
theorem dX12_parts_197 : decode cX12_parts 197 = .ok (.iload 5, 2) := by decide +kernel
theorem dX12_parts_199 : decode cX12_parts 199 = .ok (.iadd, 1) := by decide +kernel
theorem dX12_parts_200 : decode cX12_parts 200 = .ok (.aload_n 0, 1) := by decide +kernel
theorem dX12_parts_201 : decode cX12_parts 201 = .ok (.getfield 39, 3) := by decide +kernel
theorem dX12_parts_204 : decode cX12_parts 204 = .ok (.iload 7, 2) := by decide +kernel
theorem dX12_parts_206 : decode cX12_parts 206 = .ok (.caload, 1) := by decide +kernel
theorem dX12_parts_207 : decode cX12_parts 207 = .ok (.castore, 1) := by decide +kernel
theorem dX12_parts_208 : decode cX12_parts 208 = .ok (.iinc 5 1, 3) := by decide +kernel
theorem dX12_parts_211 : decode cX12_parts 211 = .ok (.iinc 7 1, 3) := by decide +kernel
theorem dX12_parts_214 : decode cX12_parts 214 = .ok (.goto (-77), 3) := by decide +kernel
theorem dX12_parts_217 : decode cX12_parts 217 = .ok (.aload_n 0, 1) := by decide +kernel
theorem dX12_parts_218 : decode cX12_parts 218 = .ok (.getfield 57, 3) := by decide +kernel
theorem dX12_parts_221 : decode cX12_parts 221 = .ok (.iconst 5, 1) := by decide +kernel
theorem dX12_parts_222 : decode cX12_parts 222 = .ok (.iload_n 3, 1) := by decide +kernel
theorem dX12_parts_223 : decode cX12_parts 223 = .ok (.imul, 1) := by decide +kernel
theorem dX12_parts_224 : decode cX12_parts 224 = .ok (.iload 4, 2) := by decide +kernel
theorem dX12_parts_226 : decode cX12_parts 226 = .ok (.iadd, 1) := by decide +kernel
theorem dX12_parts_227 : decode cX12_parts 227 = .ok (.iload 5, 2) := by decide +kernel
theorem dX12_parts_229 : decode cX12_parts 229 = .ok (.iastore, 1) := by decide +kernel
theorem dX12_parts_230 : decode cX12_parts 230 = .ok (.iinc 4 1, 3) := by decide +kernel
theorem dX12_parts_233 : decode cX12_parts 233 = .ok (.iload 5, 2) := by decide +kernel
theorem dX12_parts_235 : decode cX12_parts 235 = .ok (.bipush 8, 2) := by decide +kernel
theorem dX12_parts_237 : decode cX12_parts 237 = .ok (.if_icmp .le 10, 3) := by decide +kernel
theorem dX12_parts_240 : decode cX12_parts 240 = .ok (.aload_n 0, 1) := by decide +kernel
theorem dX12_parts_241 : decode cX12_parts 241 = .ok (.iconst 4, 1) := by decide +kernel
theorem dX12_parts_242 : decode cX12_parts 242 = .ok (.iload 8, 2) := by decide +kernel
theorem dX12_parts_244 : decode cX12_parts 244 = .ok (.invokevirtual 152, 3) := by decide +kernel
theorem dX12_parts_247 : decode cX12_parts 247 = .ok (.goto (-132), 3) := by decide +kernel
theorem dX12_parts_250 : decode cX12_parts 250 = .ok (.aload_n 0, 1) := by decide +kernel
theorem dX12_parts_251 : decode cX12_parts 251 = .ok (.getfield 54, 3) := by decide +kernel
theorem dX12_parts_254 : decode cX12_parts 254 = .ok (.iload_n 3, 1) := by decide +kernel
theorem dX12_parts_255 : decode cX12_parts 255 = .ok (.iload 4, 2) := by decide +kernel
theorem dX12_parts_257 : decode cX12_parts 257 = .ok (.iastore, 1) := by decide +kernel
theorem dX12_parts_258 : decode cX12_parts 258 = .ok (.iload 7, 2) := by decide +kernel
theorem dX12_parts_260 : decode cX12_parts 260 = .ok (.iload_n 2, 1) := by decide +kernel
theorem dX12_parts_261 : decode cX12_parts 261 = .ok (.if_icmp .ge 12, 3) := by decide +kernel
theorem dX12_parts_264 : decode cX12_parts 264 = .ok (.aload_n 0, 1) := by decide +kernel
theorem dX12_parts_265 : decode cX12_parts 265 = .ok (.iconst 3, 1) := by decide +kernel
theorem dX12_parts_266 : decode cX12_parts 266 = .ok (.iload 7, 2) := by decide +kernel
theorem dX12_parts_268 : decode cX12_parts 268 = .ok (.iconst 1, 1) := by decide +kernel
theorem dX12_parts_269 : decode cX12_parts 269 = .ok (.iadd, 1) := by decide +kernel
theorem dX12_parts_270 : decode cX12_parts 270 = .ok (.invokevirtual 152, 3) := by decide +kernel
theorem dX12_parts_273 : decode cX12_parts 273 = .ok (.aload_n 0, 1) := by decide +kernel
theorem dX12_parts_274 : decode cX12_parts 274 = .ok (.dup, 1) := by decide +kernel
theorem dX12_parts_275 : decode cX12_parts 275 = .ok (.getfield 149, 3) := by decide +kernel
theorem dX12_parts_278 : decode cX12_parts 278 = .ok (.iconst 1, 1) := by decide +kernel
theorem dX12_parts_279 : decode cX12_parts 279 = .ok (.iadd, 1) := by decide +kernel
theorem dX12_parts_280 : decode cX12_parts 280 = .ok (.putfield 149, 3) := by decide +kernel
theorem dX12_parts_283 : decode cX12_parts 283 = .ok (.return_, 1) := by decide +kernel
theorem dX12_splits_0 : decode cX12_splits 0 = .ok (.aload_n 0, 1) := by decide +kernel
theorem dX12_splits_1 : decode cX12_splits 1 = .ok (.iconst 0, 1) := by decide +kernel
theorem dX12_splits_2 : decode cX12_splits 2 = .ok (.putfield 149, 3) := by decide +kernel
theorem dX12_splits_5 : decode cX12_splits 5 = .ok (.iconst 0, 1) := by decide +kernel
theorem dX12_splits_6 : decode cX12_splits 6 = .ok (.istore_n 1, 1) := by decide +kernel
theorem dX12_splits_7 : decode cX12_splits 7 = .ok (.iconst 1, 1) := by decide +kernel
theorem dX12_splits_8 : decode cX12_splits 8 = .ok (.istore_n 2, 1) := by decide +kernel
theorem dX12_splits_9 : decode cX12_splits 9 = .ok (.iload_n 1, 1) := by decide +kernel
theorem dX12_splits_10 : decode cX12_splits 10 = .ok (.aload_n 0, 1) := by decide +kernel
theorem dX12_splits_11 : decode cX12_splits 11 = .ok (.getfield 143, 3) := by decide +kernel
theorem dX12_splits_14 : decode cX12_splits 14 = .ok (.if_icmp .ge 62, 3) := by decide +kernel
theorem dX12_splits_17 : decode cX12_splits 17 = .ok (.aload_n 0, 1) := by decide +kernel
theorem dX12_splits_18 : decode cX12_splits 18 = .ok (.getfield 149, 3) := by decide +kernel
theorem dX12_splits_21 : decode cX12_splits 21 = .ok (.bipush 20, 2) := by decide +kernel
theorem dX12_splits_23 : decode cX12_splits 23 = .ok (.if_icmp .ge 53, 3) := by decide +kernel
theorem dX12_splits_26 : decode cX12_splits 26 = .ok (.iload_n 2, 1) := by decide +kernel
theorem dX12_splits_27 : decode cX12_splits 27 = .ok (.ifCond .eq 49, 3) := by decide +kernel
theorem dX12_splits_30 : decode cX12_splits 30 = .ok (.aload_n 0, 1) := by decide +kernel
theorem dX12_splits_31 : decode cX12_splits 31 = .ok (.iload_n 1, 1) := by decide +kernel
theorem dX12_splits_32 : decode cX12_splits 32 = .ok (.invokevirtual 156, 3) := by decide +kernel
theorem dX12_splits_35 : decode cX12_splits 35 = .ok (.istore_n 3, 1) := by decide +kernel
theorem dX12_splits_36 : decode cX12_splits 36 = .ok (.iload_n 3, 1) := by decide +kernel
theorem dX12_splits_37 : decode cX12_splits 37 = .ok (.aload_n 0, 1) := by decide +kernel
theorem dX12_splits_38 : decode cX12_splits 38 = .ok (.getfield 143, 3) := by decide +kernel
theorem dX12_splits_41 : decode cX12_splits 41 = .ok (.if_icmp .ge 7, 3) := by decide +kernel
theorem dX12_splits_44 : decode cX12_splits 44 = .ok (.iconst 1, 1) := by decide +kernel
theorem dX12_splits_45 : decode cX12_splits 45 = .ok (.goto 4, 3) := by decide +kernel
theorem dX12_splits_48 : decode cX12_splits 48 = .ok (.iconst 0, 1) := by decide +kernel
theorem dX12_splits_49 : decode cX12_splits 49 = .ok (.istore_n 2, 1) := by decide +kernel
theorem dX12_splits_50 : decode cX12_splits 50 = .ok (.iload_n 2, 1) := by decide +kernel
theorem dX12_splits_51 : decode cX12_splits 51 = .ok (.ifCond .eq 16, 3) := by decide +kernel
theorem dX12_splits_54 : decode cX12_splits 54 = .ok (.aload_n 0, 1) := by decide +kernel
theorem dX12_splits_55 : decode cX12_splits 55 = .ok (.iload_n 1, 1) := by decide +kernel
theorem dX12_splits_56 : decode cX12_splits 56 = .ok (.iload_n 3, 1) := by decide +kernel
theorem dX12_splits_57 : decode cX12_splits 57 = .ok (.invokevirtual 160, 3) := by decide +kernel
theorem dX12_splits_60 : decode cX12_splits 60 = .ok (.iload_n 3, 1) := by decide +kernel
theorem dX12_splits_61 : decode cX12_splits 61 = .ok (.iconst 1, 1) := by decide +kernel
theorem dX12_splits_62 : decode cX12_splits 62 = .ok (.iadd, 1) := by decide +kernel
theorem dX12_splits_63 : decode cX12_splits 63 = .ok (.istore_n 1, 1) := by decide +kernel
theorem dX12_splits_64 : decode cX12_splits 64 = .ok (.goto 9, 3) := by decide +kernel
theorem dX12_splits_67 : decode cX12_splits 67 = .ok (.aload_n 0, 1) := by decide +kernel
theorem dX12_splits_68 : decode cX12_splits 68 = .ok (.iconst 1, 1) := by decide +kernel
theorem dX12_splits_69 : decode cX12_splits 69 = .ok (.iload_n 1, 1) := by decide +kernel
theorem dX12_splits_70 : decode cX12_splits 70 = .ok (.invokevirtual 152, 3) := by decide +kernel
theorem dX12_splits_73 : decode cX12_splits 73 = .ok (.goto (-64), 3) := by decide +kernel
theorem dX12_splits_76 : decode cX12_splits 76 = .ok (.iload_n 1, 1) := by decide +kernel
theorem dX12_splits_77 : decode cX12_splits 77 = .ok (.aload_n 0, 1) := by decide +kernel
theorem dX12_splits_78 : decode cX12_splits 78 = .ok (.getfield 143, 3) := by decide +kernel
theorem dX12_splits_81 : decode cX12_splits 81 = .ok (.if_icmp .ge 13, 3) := by decide +kernel
theorem dX12_splits_84 : decode cX12_splits 84 = .ok (.iload_n 2, 1) := by decide +kernel
theorem dX12_splits_85 : decode cX12_splits 85 = .ok (.ifCond .eq 9, 3) := by decide +kernel
theorem dX12_splits_88 : decode cX12_splits 88 = .ok (.aload_n 0, 1) := by decide +kernel
theorem dX12_splits_89 : decode cX12_splits 89 = .ok (.iconst 5, 1) := by decide +kernel
theorem dX12_splits_90 : decode cX12_splits 90 = .ok (.iload_n 1, 1) := by decide +kernel
theorem dX12_splits_91 : decode cX12_splits 91 = .ok (.invokevirtual 152, 3) := by decide +kernel
theorem dX12_splits_94 : decode cX12_splits 94 = .ok (.return_, 1) := by decide +kernel
theorem dX12_numberIn_0 : decode cX12_numberIn 0 = .ok (.iconst 5, 1) := by decide +kernel
theorem dX12_numberIn_1 : decode cX12_numberIn 1 = .ok (.iload_n 1, 1) := by decide +kernel
theorem dX12_numberIn_2 : decode cX12_numberIn 2 = .ok (.imul, 1) := by decide +kernel
theorem dX12_numberIn_3 : decode cX12_numberIn 3 = .ok (.iload_n 2, 1) := by decide +kernel
theorem dX12_numberIn_4 : decode cX12_numberIn 4 = .ok (.iadd, 1) := by decide +kernel
theorem dX12_numberIn_5 : decode cX12_numberIn 5 = .ok (.istore_n 3, 1) := by decide +kernel
theorem dX12_numberIn_6 : decode cX12_numberIn 6 = .ok (.aload_n 0, 1) := by decide +kernel
theorem dX12_numberIn_7 : decode cX12_numberIn 7 = .ok (.getfield 57, 3) := by decide +kernel
theorem dX12_numberIn_10 : decode cX12_numberIn 10 = .ok (.iload_n 3, 1) := by decide +kernel
theorem dX12_numberIn_11 : decode cX12_numberIn 11 = .ok (.iaload, 1) := by decide +kernel
theorem dX12_numberIn_12 : decode cX12_numberIn 12 = .ok (.iconst 1, 1) := by decide +kernel
theorem dX12_numberIn_13 : decode cX12_numberIn 13 = .ok (.if_icmp .lt 17, 3) := by decide +kernel
theorem dX12_numberIn_16 : decode cX12_numberIn 16 = .ok (.aload_n 0, 1) := by decide +kernel
theorem dX12_numberIn_17 : decode cX12_numberIn 17 = .ok (.getfield 57, 3) := by decide +kernel
theorem dX12_numberIn_20 : decode cX12_numberIn 20 = .ok (.iload_n 3, 1) := by decide +kernel
theorem dX12_numberIn_21 : decode cX12_numberIn 21 = .ok (.iaload, 1) := by decide +kernel
theorem dX12_numberIn_22 : decode cX12_numberIn 22 = .ok (.iconst 4, 1) := by decide +kernel
theorem dX12_numberIn_23 : decode cX12_numberIn 23 = .ok (.if_icmp .gt 7, 3) := by decide +kernel
theorem dX12_numberIn_26 : decode cX12_numberIn 26 = .ok (.iconst 0, 1) := by decide +kernel
theorem dX12_numberIn_27 : decode cX12_numberIn 27 = .ok (.goto 4, 3) := by decide +kernel
theorem dX12_numberIn_30 : decode cX12_numberIn 30 = .ok (.iconst (-1), 1) := by decide +kernel
theorem dX12_numberIn_31 : decode cX12_numberIn 31 = .ok (.istore 4, 2) := by decide +kernel
theorem dX12_numberIn_33 : decode cX12_numberIn 33 = .ok (.iconst 0, 1) := by decide +kernel
theorem dX12_numberIn_34 : decode cX12_numberIn 34 = .ok (.istore 5, 2) := by decide +kernel
theorem dX12_numberIn_36 : decode cX12_numberIn 36 = .ok (.iload 4, 2) := by decide +kernel
theorem dX12_numberIn_38 : decode cX12_numberIn 38 = .ok (.iconst (-1), 1) := by decide +kernel
theorem dX12_numberIn_39 : decode cX12_numberIn 39 = .ok (.if_icmp .eq 63, 3) := by decide +kernel
theorem dX12_numberIn_42 : decode cX12_numberIn 42 = .ok (.iload 5, 2) := by decide +kernel
theorem dX12_numberIn_44 : decode cX12_numberIn 44 = .ok (.aload_n 0, 1) := by decide +kernel
theorem dX12_numberIn_45 : decode cX12_numberIn 45 = .ok (.getfield 57, 3) := by decide +kernel
theorem dX12_numberIn_48 : decode cX12_numberIn 48 = .ok (.iload_n 3, 1) := by decide +kernel
theorem dX12_numberIn_49 : decode cX12_numberIn 49 = .ok (.iaload, 1) := by decide +kernel
theorem dX12_numberIn_50 : decode cX12_numberIn 50 = .ok (.if_icmp .ge 52, 3) := by decide +kernel
theorem dX12_numberIn_53 : decode cX12_numberIn 53 = .ok (.aload_n 0, 1) := by decide +kernel
theorem dX12_numberIn_54 : decode cX12_numberIn 54 = .ok (.getfield 60, 3) := by decide +kernel
theorem dX12_numberIn_57 : decode cX12_numberIn 57 = .ok (.bipush 8, 2) := by decide +kernel
theorem dX12_numberIn_59 : decode cX12_numberIn 59 = .ok (.iload_n 3, 1) := by decide +kernel
theorem dX12_numberIn_60 : decode cX12_numberIn 60 = .ok (.imul, 1) := by decide +kernel
theorem dX12_numberIn_61 : decode cX12_numberIn 61 = .ok (.iload 5, 2) := by decide +kernel
theorem dX12_numberIn_63 : decode cX12_numberIn 63 = .ok (.iadd, 1) := by decide +kernel
theorem dX12_numberIn_64 : decode cX12_numberIn 64 = .ok (.caload, 1) := by decide +kernel
theorem dX12_numberIn_65 : decode cX12_numberIn 65 = .ok (.istore 6, 2) := by decide +kernel
theorem dX12_numberIn_67 : decode cX12_numberIn 67 = .ok (.iload 6, 2) := by decide +kernel
theorem dX12_numberIn_69 : decode cX12_numberIn 69 = .ok (.bipush 48, 2) := by decide +kernel
theorem dX12_numberIn_71 : decode cX12_numberIn 71 = .ok (.bipush 57, 2) := by decide +kernel
theorem dX12_numberIn_73 : decode cX12_numberIn 73 = .ok (.invokestatic 115, 3) := by decide +kernel
theorem dX12_numberIn_76 : decode cX12_numberIn 76 = .ok (.ifCond .eq 17, 3) := by decide +kernel
theorem dX12_numberIn_79 : decode cX12_numberIn 79 = .ok (.bipush 10, 2) := by decide +kernel
theorem dX12_numberIn_81 : decode cX12_numberIn 81 = .ok (.iload 4, 2) := by decide +kernel
theorem dX12_numberIn_83 : decode cX12_numberIn 83 = .ok (.imul, 1) := by decide +kernel
theorem dX12_numberIn_84 : decode cX12_numberIn 84 = .ok (.iload 6, 2) := by decide +kernel
theorem dX12_numberIn_86 : decode cX12_numberIn 86 = .ok (.iadd, 1) := by decide +kernel
theorem dX12_numberIn_87 : decode cX12_numberIn 87 = .ok (.bipush 48, 2) := by decide +kernel
theorem dX12_numberIn_89 : decode cX12_numberIn 89 = .ok (.isub, 1) := by decide +kernel
theorem dX12_numberIn_90 : decode cX12_numberIn 90 = .ok (.goto 4, 3) := by decide +kernel
theorem dX12_numberIn_93 : decode cX12_numberIn 93 = .ok (.iconst (-1), 1) := by decide +kernel
theorem dX12_numberIn_94 : decode cX12_numberIn 94 = .ok (.istore 4, 2) := by decide +kernel
theorem dX12_numberIn_96 : decode cX12_numberIn 96 = .ok (.iinc 5 1, 3) := by decide +kernel
theorem dX12_numberIn_99 : decode cX12_numberIn 99 = .ok (.goto (-63), 3) := by decide +kernel
theorem dX12_numberIn_102 : decode cX12_numberIn 102 = .ok (.iload 4, 2) := by decide +kernel
theorem dX12_numberIn_104 : decode cX12_numberIn 104 = .ok (.ireturn, 1) := by decide +kernel
theorem dX12_envelope_0 : decode cX12_envelope 0 = .ok (.aload_n 0, 1) := by decide +kernel
theorem dX12_envelope_1 : decode cX12_envelope 1 = .ok (.getfield 149, 3) := by decide +kernel
theorem dX12_envelope_4 : decode cX12_envelope 4 = .ok (.iconst 1, 1) := by decide +kernel
theorem dX12_envelope_5 : decode cX12_envelope 5 = .ok (.isub, 1) := by decide +kernel
theorem dX12_envelope_6 : decode cX12_envelope 6 = .ok (.istore_n 1, 1) := by decide +kernel
theorem dX12_envelope_7 : decode cX12_envelope 7 = .ok (.aload_n 0, 1) := by decide +kernel
theorem dX12_envelope_8 : decode cX12_envelope 8 = .ok (.getfield 149, 3) := by decide +kernel
theorem dX12_envelope_11 : decode cX12_envelope 11 = .ok (.ifCond .eq 34, 3) := by decide +kernel
theorem dX12_envelope_14 : decode cX12_envelope 14 = .ok (.aload_n 0, 1) := by decide +kernel
theorem dX12_envelope_15 : decode cX12_envelope 15 = .ok (.getfield 51, 3) := by decide +kernel
theorem dX12_envelope_18 : decode cX12_envelope 18 = .ok (.iconst 0, 1) := by decide +kernel
theorem dX12_envelope_19 : decode cX12_envelope 19 = .ok (.caload, 1) := by decide +kernel
theorem dX12_envelope_20 : decode cX12_envelope 20 = .ok (.bipush 72, 2) := by decide +kernel
theorem dX12_envelope_22 : decode cX12_envelope 22 = .ok (.if_icmp .ne 23, 3) := by decide +kernel
theorem dX12_envelope_25 : decode cX12_envelope 25 = .ok (.aload_n 0, 1) := by decide +kernel
theorem dX12_envelope_26 : decode cX12_envelope 26 = .ok (.getfield 54, 3) := by decide +kernel
theorem dX12_envelope_29 : decode cX12_envelope 29 = .ok (.iconst 0, 1) := by decide +kernel
theorem dX12_envelope_30 : decode cX12_envelope 30 = .ok (.iaload, 1) := by decide +kernel
theorem dX12_envelope_31 : decode cX12_envelope 31 = .ok (.iconst 1, 1) := by decide +kernel
theorem dX12_envelope_32 : decode cX12_envelope 32 = .ok (.if_icmp .ne 13, 3) := by decide +kernel
theorem dX12_envelope_35 : decode cX12_envelope 35 = .ok (.aload_n 0, 1) := by decide +kernel
theorem dX12_envelope_36 : decode cX12_envelope 36 = .ok (.iconst 0, 1) := by decide +kernel
theorem dX12_envelope_37 : decode cX12_envelope 37 = .ok (.iconst 0, 1) := by decide +kernel
theorem dX12_envelope_38 : decode cX12_envelope 38 = .ok (.invokevirtual 163, 3) := by decide +kernel
theorem dX12_envelope_41 : decode cX12_envelope 41 = .ok (.iconst (-1), 1) := by decide +kernel
theorem dX12_envelope_42 : decode cX12_envelope 42 = .ok (.if_icmp .ne 10, 3) := by decide +kernel
theorem dX12_envelope_45 : decode cX12_envelope 45 = .ok (.aload_n 0, 1) := by decide +kernel
theorem dX12_envelope_46 : decode cX12_envelope 46 = .ok (.bipush 6, 2) := by decide +kernel
theorem dX12_envelope_48 : decode cX12_envelope 48 = .ok (.iconst 0, 1) := by decide +kernel
theorem dX12_envelope_49 : decode cX12_envelope 49 = .ok (.invokevirtual 152, 3) := by decide +kernel
theorem dX12_envelope_52 : decode cX12_envelope 52 = .ok (.aload_n 0, 1) := by decide +kernel
theorem dX12_envelope_53 : decode cX12_envelope 53 = .ok (.getfield 149, 3) := by decide +kernel
theorem dX12_envelope_56 : decode cX12_envelope 56 = .ok (.iconst 2, 1) := by decide +kernel
theorem dX12_envelope_57 : decode cX12_envelope 57 = .ok (.if_icmp .lt 44, 3) := by decide +kernel
theorem dX12_envelope_60 : decode cX12_envelope 60 = .ok (.aload_n 0, 1) := by decide +kernel
theorem dX12_envelope_61 : decode cX12_envelope 61 = .ok (.getfield 51, 3) := by decide +kernel
theorem dX12_envelope_64 : decode cX12_envelope 64 = .ok (.iload_n 1, 1) := by decide +kernel
theorem dX12_envelope_65 : decode cX12_envelope 65 = .ok (.caload, 1) := by decide +kernel
theorem dX12_envelope_66 : decode cX12_envelope 66 = .ok (.bipush 84, 2) := by decide +kernel
theorem dX12_envelope_68 : decode cX12_envelope 68 = .ok (.if_icmp .ne 33, 3) := by decide +kernel
theorem dX12_envelope_71 : decode cX12_envelope 71 = .ok (.aload_n 0, 1) := by decide +kernel
theorem dX12_envelope_72 : decode cX12_envelope 72 = .ok (.getfield 54, 3) := by decide +kernel
theorem dX12_envelope_75 : decode cX12_envelope 75 = .ok (.iload_n 1, 1) := by decide +kernel
theorem dX12_envelope_76 : decode cX12_envelope 76 = .ok (.iaload, 1) := by decide +kernel
theorem dX12_envelope_77 : decode cX12_envelope 77 = .ok (.iconst 2, 1) := by decide +kernel
theorem dX12_envelope_78 : decode cX12_envelope 78 = .ok (.if_icmp .ne 23, 3) := by decide +kernel
theorem dX12_envelope_81 : decode cX12_envelope 81 = .ok (.aload_n 0, 1) := by decide +kernel
theorem dX12_envelope_82 : decode cX12_envelope 82 = .ok (.iload_n 1, 1) := by decide +kernel
theorem dX12_envelope_83 : decode cX12_envelope 83 = .ok (.iconst 0, 1) := by decide +kernel
theorem dX12_envelope_84 : decode cX12_envelope 84 = .ok (.invokevirtual 163, 3) := by decide +kernel
theorem dX12_envelope_87 : decode cX12_envelope 87 = .ok (.iconst (-1), 1) := by decide +kernel
theorem dX12_envelope_88 : decode cX12_envelope 88 = .ok (.if_icmp .eq 13, 3) := by decide +kernel
theorem dX12_envelope_91 : decode cX12_envelope 91 = .ok (.aload_n 0, 1) := by decide +kernel
theorem dX12_envelope_92 : decode cX12_envelope 92 = .ok (.iload_n 1, 1) := by decide +kernel
theorem dX12_envelope_93 : decode cX12_envelope 93 = .ok (.iconst 1, 1) := by decide +kernel
theorem dX12_envelope_94 : decode cX12_envelope 94 = .ok (.invokevirtual 163, 3) := by decide +kernel
theorem dX12_envelope_97 : decode cX12_envelope 97 = .ok (.iconst (-1), 1) := by decide +kernel
theorem dX12_envelope_98 : decode cX12_envelope 98 = .ok (.if_icmp .ne 26, 3) := by decide +kernel
theorem dX12_envelope_101 : decode cX12_envelope 101 = .ok (.aload_n 0, 1) := by decide +kernel
theorem dX12_envelope_102 : decode cX12_envelope 102 = .ok (.bipush 7, 2) := by decide +kernel
theorem dX12_envelope_104 : decode cX12_envelope 104 = .ok (.aload_n 0, 1) := by decide +kernel
theorem dX12_envelope_105 : decode cX12_envelope 105 = .ok (.getfield 149, 3) := by decide +kernel
theorem dX12_envelope_108 : decode cX12_envelope 108 = .ok (.ifCond .ne 7, 3) := by decide +kernel
theorem dX12_envelope_111 : decode cX12_envelope 111 = .ok (.iconst 0, 1) := by decide +kernel
theorem dX12_envelope_112 : decode cX12_envelope 112 = .ok (.goto 9, 3) := by decide +kernel
theorem dX12_envelope_115 : decode cX12_envelope 115 = .ok (.aload_n 0, 1) := by decide +kernel
theorem dX12_envelope_116 : decode cX12_envelope 116 = .ok (.getfield 48, 3) := by decide +kernel
theorem dX12_envelope_119 : decode cX12_envelope 119 = .ok (.iload_n 1, 1) := by decide +kernel
theorem dX12_envelope_120 : decode cX12_envelope 120 = .ok (.iaload, 1) := by decide +kernel
theorem dX12_envelope_121 : decode cX12_envelope 121 = .ok (.invokevirtual 152, 3) := by decide +kernel
theorem dX12_envelope_124 : decode cX12_envelope 124 = .ok (.return_, 1) := by decide +kernel
theorem dX12_numbers_0 : decode cX12_numbers 0 = .ok (.aload_n 0, 1) := by decide +kernel
theorem dX12_numbers_1 : decode cX12_numbers 1 = .ok (.getfield 149, 3) := by decide +kernel
theorem dX12_numbers_4 : decode cX12_numbers 4 = .ok (.iconst 1, 1) := by decide +kernel
theorem dX12_numbers_5 : decode cX12_numbers 5 = .ok (.isub, 1) := by decide +kernel
theorem dX12_numbers_6 : decode cX12_numbers 6 = .ok (.istore_n 1, 1) := by decide +kernel
theorem dX12_numbers_7 : decode cX12_numbers 7 = .ok (.aload_n 0, 1) := by decide +kernel
theorem dX12_numbers_8 : decode cX12_numbers 8 = .ok (.getfield 167, 3) := by decide +kernel
theorem dX12_numbers_11 : decode cX12_numbers 11 = .ok (.ifCond .eq 25, 3) := by decide +kernel
theorem dX12_numbers_14 : decode cX12_numbers 14 = .ok (.aload_n 0, 1) := by decide +kernel
theorem dX12_numbers_15 : decode cX12_numbers 15 = .ok (.iconst 0, 1) := by decide +kernel
theorem dX12_numbers_16 : decode cX12_numbers 16 = .ok (.iconst 0, 1) := by decide +kernel
theorem dX12_numbers_17 : decode cX12_numbers 17 = .ok (.invokevirtual 163, 3) := by decide +kernel
theorem dX12_numbers_20 : decode cX12_numbers 20 = .ok (.aload_n 0, 1) := by decide +kernel
theorem dX12_numbers_21 : decode cX12_numbers 21 = .ok (.getfield 170, 3) := by decide +kernel
theorem dX12_numbers_24 : decode cX12_numbers 24 = .ok (.iconst 1, 1) := by decide +kernel
theorem dX12_numbers_25 : decode cX12_numbers 25 = .ok (.iadd, 1) := by decide +kernel
theorem dX12_numbers_26 : decode cX12_numbers 26 = .ok (.if_icmp .eq 10, 3) := by decide +kernel
theorem dX12_numbers_29 : decode cX12_numbers 29 = .ok (.aload_n 0, 1) := by decide +kernel
theorem dX12_numbers_30 : decode cX12_numbers 30 = .ok (.bipush 10, 2) := by decide +kernel
theorem dX12_numbers_32 : decode cX12_numbers 32 = .ok (.iconst 0, 1) := by decide +kernel
theorem dX12_numbers_33 : decode cX12_numbers 33 = .ok (.invokevirtual 152, 3) := by decide +kernel
theorem dX12_numbers_36 : decode cX12_numbers 36 = .ok (.aload_n 0, 1) := by decide +kernel
theorem dX12_numbers_37 : decode cX12_numbers 37 = .ok (.iload_n 1, 1) := by decide +kernel
theorem dX12_numbers_38 : decode cX12_numbers 38 = .ok (.iconst 0, 1) := by decide +kernel
theorem dX12_numbers_39 : decode cX12_numbers 39 = .ok (.invokevirtual 163, 3) := by decide +kernel
theorem dX12_numbers_42 : decode cX12_numbers 42 = .ok (.aload_n 0, 1) := by decide +kernel
theorem dX12_numbers_43 : decode cX12_numbers 43 = .ok (.getfield 149, 3) := by decide +kernel
theorem dX12_numbers_46 : decode cX12_numbers 46 = .ok (.if_icmp .eq 15, 3) := by decide +kernel
theorem dX12_numbers_49 : decode cX12_numbers 49 = .ok (.aload_n 0, 1) := by decide +kernel
theorem dX12_numbers_50 : decode cX12_numbers 50 = .ok (.bipush 8, 2) := by decide +kernel
theorem dX12_numbers_52 : decode cX12_numbers 52 = .ok (.aload_n 0, 1) := by decide +kernel
theorem dX12_numbers_53 : decode cX12_numbers 53 = .ok (.getfield 48, 3) := by decide +kernel
theorem dX12_numbers_56 : decode cX12_numbers 56 = .ok (.iload_n 1, 1) := by decide +kernel
theorem dX12_numbers_57 : decode cX12_numbers 57 = .ok (.iaload, 1) := by decide +kernel
theorem dX12_numbers_58 : decode cX12_numbers 58 = .ok (.invokevirtual 152, 3) := by decide +kernel
theorem dX12_numbers_61 : decode cX12_numbers 61 = .ok (.aload_n 0, 1) := by decide +kernel
theorem dX12_numbers_62 : decode cX12_numbers 62 = .ok (.iload_n 1, 1) := by decide +kernel
theorem dX12_numbers_63 : decode cX12_numbers 63 = .ok (.iconst 1, 1) := by decide +kernel
theorem dX12_numbers_64 : decode cX12_numbers 64 = .ok (.invokevirtual 163, 3) := by decide +kernel
theorem dX12_numbers_67 : decode cX12_numbers 67 = .ok (.aload_n 0, 1) := by decide +kernel
theorem dX12_numbers_68 : decode cX12_numbers 68 = .ok (.iconst 0, 1) := by decide +kernel
theorem dX12_numbers_69 : decode cX12_numbers 69 = .ok (.iconst 0, 1) := by decide +kernel
theorem dX12_numbers_70 : decode cX12_numbers 70 = .ok (.invokevirtual 163, 3) := by decide +kernel
theorem dX12_numbers_73 : decode cX12_numbers 73 = .ok (.if_icmp .eq 15, 3) := by decide +kernel
theorem dX12_numbers_76 : decode cX12_numbers 76 = .ok (.aload_n 0, 1) := by decide +kernel
theorem dX12_numbers_77 : decode cX12_numbers 77 = .ok (.bipush 9, 2) := by decide +kernel
theorem dX12_numbers_79 : decode cX12_numbers 79 = .ok (.aload_n 0, 1) := by decide +kernel
theorem dX12_numbers_80 : decode cX12_numbers 80 = .ok (.getfield 48, 3) := by decide +kernel
theorem dX12_numbers_83 : decode cX12_numbers 83 = .ok (.iload_n 1, 1) := by decide +kernel
theorem dX12_numbers_84 : decode cX12_numbers 84 = .ok (.iaload, 1) := by decide +kernel
theorem dX12_numbers_85 : decode cX12_numbers 85 = .ok (.invokevirtual 152, 3) := by decide +kernel
theorem dX12_numbers_88 : decode cX12_numbers 88 = .ok (.return_, 1) := by decide +kernel
theorem dX12_isSkipped_0 : decode cX12_isSkipped 0 = .ok (.aload_n 0, 1) := by decide +kernel
theorem dX12_isSkipped_1 : decode cX12_isSkipped 1 = .ok (.getfield 33, 3) := by decide +kernel
theorem dX12_isSkipped_4 : decode cX12_isSkipped 4 = .ok (.iload_n 1, 1) := by decide +kernel
theorem dX12_isSkipped_5 : decode cX12_isSkipped 5 = .ok (.iaload, 1) := by decide +kernel
theorem dX12_isSkipped_6 : decode cX12_isSkipped 6 = .ok (.ifCond .ne 7, 3) := by decide +kernel
theorem dX12_isSkipped_9 : decode cX12_isSkipped 9 = .ok (.iconst 1, 1) := by decide +kernel
theorem dX12_isSkipped_10 : decode cX12_isSkipped 10 = .ok (.goto 4, 3) := by decide +kernel
theorem dX12_isSkipped_13 : decode cX12_isSkipped 13 = .ok (.iconst 0, 1) := by decide +kernel
theorem dX12_isSkipped_14 : decode cX12_isSkipped 14 = .ok (.ireturn, 1) := by decide +kernel
theorem dX12_enters_0 : decode cX12_enters 0 = .ok (.iconst 1, 1) := by decide +kernel
theorem dX12_enters_1 : decode cX12_enters 1 = .ok (.istore 5, 2) := by decide +kernel
theorem dX12_enters_3 : decode cX12_enters 3 = .ok (.iload_n 1, 1) := by decide +kernel
theorem dX12_enters_4 : decode cX12_enters 4 = .ok (.istore 6, 2) := by decide +kernel
theorem dX12_enters_6 : decode cX12_enters 6 = .ok (.iload 6, 2) := by decide +kernel
theorem dX12_enters_8 : decode cX12_enters 8 = .ok (.iload_n 2, 1) := by decide +kernel
theorem dX12_enters_9 : decode cX12_enters 9 = .ok (.if_icmp .gt 79, 3) := by decide +kernel
theorem dX12_enters_12 : decode cX12_enters 12 = .ok (.iload 5, 2) := by decide +kernel
theorem dX12_enters_14 : decode cX12_enters 14 = .ok (.ifCond .eq 46, 3) := by decide +kernel
theorem dX12_enters_17 : decode cX12_enters 17 = .ok (.aload_n 0, 1) := by decide +kernel
theorem dX12_enters_18 : decode cX12_enters 18 = .ok (.getfield 7, 3) := by decide +kernel
theorem dX12_enters_21 : decode cX12_enters 21 = .ok (.iload 6, 2) := by decide +kernel
theorem dX12_enters_23 : decode cX12_enters 23 = .ok (.caload, 1) := by decide +kernel
theorem dX12_enters_24 : decode cX12_enters 24 = .ok (.iload 4, 2) := by decide +kernel
theorem dX12_enters_26 : decode cX12_enters 26 = .ok (.if_icmp .ne 34, 3) := by decide +kernel
theorem dX12_enters_29 : decode cX12_enters 29 = .ok (.aload_n 0, 1) := by decide +kernel
theorem dX12_enters_30 : decode cX12_enters 30 = .ok (.getfield 84, 3) := by decide +kernel
theorem dX12_enters_33 : decode cX12_enters 33 = .ok (.aload_n 0, 1) := by decide +kernel
theorem dX12_enters_34 : decode cX12_enters 34 = .ok (.getfield 173, 3) := by decide +kernel
theorem dX12_enters_37 : decode cX12_enters 37 = .ok (.bipush 100, 2) := by decide +kernel
theorem dX12_enters_39 : decode cX12_enters 39 = .ok (.iload 6, 2) := by decide +kernel
theorem dX12_enters_41 : decode cX12_enters 41 = .ok (.imul, 1) := by decide +kernel
theorem dX12_enters_42 : decode cX12_enters 42 = .ok (.bipush 10, 2) := by decide +kernel
theorem dX12_enters_44 : decode cX12_enters 44 = .ok (.iload_n 3, 1) := by decide +kernel
theorem dX12_enters_45 : decode cX12_enters 45 = .ok (.imul, 1) := by decide +kernel
theorem dX12_enters_46 : decode cX12_enters 46 = .ok (.iadd, 1) := by decide +kernel
theorem dX12_enters_47 : decode cX12_enters 47 = .ok (.iconst 1, 1) := by decide +kernel
theorem dX12_enters_48 : decode cX12_enters 48 = .ok (.iadd, 1) := by decide +kernel
theorem dX12_enters_49 : decode cX12_enters 49 = .ok (.iastore, 1) := by decide +kernel
theorem dX12_enters_50 : decode cX12_enters 50 = .ok (.aload_n 0, 1) := by decide +kernel
theorem dX12_enters_51 : decode cX12_enters 51 = .ok (.dup, 1) := by decide +kernel
theorem dX12_enters_52 : decode cX12_enters 52 = .ok (.getfield 173, 3) := by decide +kernel
theorem dX12_enters_55 : decode cX12_enters 55 = .ok (.iconst 1, 1) := by decide +kernel
theorem dX12_enters_56 : decode cX12_enters 56 = .ok (.iadd, 1) := by decide +kernel
theorem dX12_enters_57 : decode cX12_enters 57 = .ok (.putfield 173, 3) := by decide +kernel
theorem dX12_enters_60 : decode cX12_enters 60 = .ok (.iload 5, 2) := by decide +kernel
theorem dX12_enters_62 : decode cX12_enters 62 = .ok (.ifCond .eq 17, 3) := by decide +kernel
theorem dX12_enters_65 : decode cX12_enters 65 = .ok (.aload_n 0, 1) := by decide +kernel
theorem dX12_enters_66 : decode cX12_enters 66 = .ok (.getfield 13, 3) := by decide +kernel
theorem dX12_enters_69 : decode cX12_enters 69 = .ok (.iload 6, 2) := by decide +kernel
theorem dX12_enters_71 : decode cX12_enters 71 = .ok (.iaload, 1) := by decide +kernel
theorem dX12_enters_72 : decode cX12_enters 72 = .ok (.ifCond .ne 7, 3) := by decide +kernel
theorem dX12_enters_75 : decode cX12_enters 75 = .ok (.iconst 1, 1) := by decide +kernel
theorem dX12_enters_76 : decode cX12_enters 76 = .ok (.goto 4, 3) := by decide +kernel
theorem dX12_enters_79 : decode cX12_enters 79 = .ok (.iconst 0, 1) := by decide +kernel
theorem dX12_enters_80 : decode cX12_enters 80 = .ok (.istore 5, 2) := by decide +kernel
theorem dX12_enters_82 : decode cX12_enters 82 = .ok (.iinc 6 1, 3) := by decide +kernel
theorem dX12_enters_85 : decode cX12_enters 85 = .ok (.goto (-79), 3) := by decide +kernel
theorem dX12_enters_88 : decode cX12_enters 88 = .ok (.iload 5, 2) := by decide +kernel
theorem dX12_enters_90 : decode cX12_enters 90 = .ok (.ireturn, 1) := by decide +kernel
theorem dX12_leads_0 : decode cX12_leads 0 = .ok (.aload_n 0, 1) := by decide +kernel
theorem dX12_leads_1 : decode cX12_leads 1 = .ok (.iconst 0, 1) := by decide +kernel
theorem dX12_leads_2 : decode cX12_leads 2 = .ok (.putfield 173, 3) := by decide +kernel
theorem dX12_leads_5 : decode cX12_leads 5 = .ok (.iconst 0, 1) := by decide +kernel
theorem dX12_leads_6 : decode cX12_leads 6 = .ok (.istore_n 3, 1) := by decide +kernel
theorem dX12_leads_7 : decode cX12_leads 7 = .ok (.iload_n 1, 1) := by decide +kernel
theorem dX12_leads_8 : decode cX12_leads 8 = .ok (.sipush 1000, 3) := by decide +kernel
theorem dX12_leads_11 : decode cX12_leads 11 = .ok (.if_icmp .eq 214, 3) := by decide +kernel
theorem dX12_leads_14 : decode cX12_leads 14 = .ok (.iload_n 1, 1) := by decide +kernel
theorem dX12_leads_15 : decode cX12_leads 15 = .ok (.bipush 100, 2) := by decide +kernel
theorem dX12_leads_17 : decode cX12_leads 17 = .ok (.idiv, 1) := by decide +kernel
theorem dX12_leads_18 : decode cX12_leads 18 = .ok (.istore 4, 2) := by decide +kernel
theorem dX12_leads_20 : decode cX12_leads 20 = .ok (.iload_n 1, 1) := by decide +kernel
theorem dX12_leads_21 : decode cX12_leads 21 = .ok (.bipush 10, 2) := by decide +kernel
theorem dX12_leads_23 : decode cX12_leads 23 = .ok (.idiv, 1) := by decide +kernel
theorem dX12_leads_24 : decode cX12_leads 24 = .ok (.bipush 10, 2) := by decide +kernel
theorem dX12_leads_26 : decode cX12_leads 26 = .ok (.irem, 1) := by decide +kernel
theorem dX12_leads_27 : decode cX12_leads 27 = .ok (.istore 5, 2) := by decide +kernel
theorem dX12_leads_29 : decode cX12_leads 29 = .ok (.iload_n 1, 1) := by decide +kernel
theorem dX12_leads_30 : decode cX12_leads 30 = .ok (.bipush 10, 2) := by decide +kernel
theorem dX12_leads_32 : decode cX12_leads 32 = .ok (.irem, 1) := by decide +kernel
theorem dX12_leads_33 : decode cX12_leads 33 = .ok (.istore 6, 2) := by decide +kernel
theorem dX12_leads_35 : decode cX12_leads 35 = .ok (.aload_n 0, 1) := by decide +kernel
theorem dX12_leads_36 : decode cX12_leads 36 = .ok (.getfield 20, 3) := by decide +kernel
theorem dX12_leads_39 : decode cX12_leads 39 = .ok (.iload 4, 2) := by decide +kernel
theorem dX12_leads_41 : decode cX12_leads 41 = .ok (.iaload, 1) := by decide +kernel
theorem dX12_leads_42 : decode cX12_leads 42 = .ok (.istore 7, 2) := by decide +kernel
theorem dX12_leads_44 : decode cX12_leads 44 = .ok (.aload_n 0, 1) := by decide +kernel
theorem dX12_leads_45 : decode cX12_leads 45 = .ok (.getfield 7, 3) := by decide +kernel
theorem dX12_leads_48 : decode cX12_leads 48 = .ok (.iload 4, 2) := by decide +kernel
theorem dX12_leads_50 : decode cX12_leads 50 = .ok (.caload, 1) := by decide +kernel
theorem dX12_leads_51 : decode cX12_leads 51 = .ok (.iload_n 2, 1) := by decide +kernel
theorem dX12_leads_52 : decode cX12_leads 52 = .ok (.if_icmp .ne 37, 3) := by decide +kernel
theorem dX12_leads_55 : decode cX12_leads 55 = .ok (.iload 6, 2) := by decide +kernel
theorem dX12_leads_57 : decode cX12_leads 57 = .ok (.aload_n 0, 1) := by decide +kernel
theorem dX12_leads_58 : decode cX12_leads 58 = .ok (.getfield 17, 3) := by decide +kernel
theorem dX12_leads_61 : decode cX12_leads 61 = .ok (.iload 4, 2) := by decide +kernel
theorem dX12_leads_63 : decode cX12_leads 63 = .ok (.iaload, 1) := by decide +kernel
theorem dX12_leads_64 : decode cX12_leads 64 = .ok (.if_icmp .ge 25, 3) := by decide +kernel
theorem dX12_leads_67 : decode cX12_leads 67 = .ok (.aload_n 0, 1) := by decide +kernel
theorem dX12_leads_68 : decode cX12_leads 68 = .ok (.getfield 84, 3) := by decide +kernel
theorem dX12_leads_71 : decode cX12_leads 71 = .ok (.aload_n 0, 1) := by decide +kernel
theorem dX12_leads_72 : decode cX12_leads 72 = .ok (.getfield 173, 3) := by decide +kernel
theorem dX12_leads_75 : decode cX12_leads 75 = .ok (.iload_n 1, 1) := by decide +kernel
theorem dX12_leads_76 : decode cX12_leads 76 = .ok (.iconst 1, 1) := by decide +kernel
theorem dX12_leads_77 : decode cX12_leads 77 = .ok (.iadd, 1) := by decide +kernel
theorem dX12_leads_78 : decode cX12_leads 78 = .ok (.iastore, 1) := by decide +kernel
theorem dX12_leads_79 : decode cX12_leads 79 = .ok (.aload_n 0, 1) := by decide +kernel
theorem dX12_leads_80 : decode cX12_leads 80 = .ok (.dup, 1) := by decide +kernel
theorem dX12_leads_81 : decode cX12_leads 81 = .ok (.getfield 173, 3) := by decide +kernel
theorem dX12_leads_84 : decode cX12_leads 84 = .ok (.iconst 1, 1) := by decide +kernel
theorem dX12_leads_85 : decode cX12_leads 85 = .ok (.iadd, 1) := by decide +kernel
theorem dX12_leads_86 : decode cX12_leads 86 = .ok (.putfield 173, 3) := by decide +kernel
theorem dX12_leads_89 : decode cX12_leads 89 = .ok (.iload 6, 2) := by decide +kernel
theorem dX12_leads_91 : decode cX12_leads 91 = .ok (.aload_n 0, 1) := by decide +kernel
theorem dX12_leads_92 : decode cX12_leads 92 = .ok (.getfield 13, 3) := by decide +kernel
theorem dX12_leads_95 : decode cX12_leads 95 = .ok (.iload 4, 2) := by decide +kernel
theorem dX12_leads_97 : decode cX12_leads 97 = .ok (.iaload, 1) := by decide +kernel
theorem dX12_leads_98 : decode cX12_leads 98 = .ok (.if_icmp .lt 7, 3) := by decide +kernel
theorem dX12_leads_101 : decode cX12_leads 101 = .ok (.iconst 1, 1) := by decide +kernel
theorem dX12_leads_102 : decode cX12_leads 102 = .ok (.goto 4, 3) := by decide +kernel
theorem dX12_leads_105 : decode cX12_leads 105 = .ok (.iconst 0, 1) := by decide +kernel
theorem dX12_leads_106 : decode cX12_leads 106 = .ok (.istore 8, 2) := by decide +kernel
theorem dX12_leads_108 : decode cX12_leads 108 = .ok (.iload 8, 2) := by decide +kernel
theorem dX12_leads_110 : decode cX12_leads 110 = .ok (.ifCond .eq 98, 3) := by decide +kernel
theorem dX12_leads_113 : decode cX12_leads 113 = .ok (.aload_n 0, 1) := by decide +kernel
theorem dX12_leads_114 : decode cX12_leads 114 = .ok (.getfield 23, 3) := by decide +kernel
theorem dX12_leads_117 : decode cX12_leads 117 = .ok (.iload 7, 2) := by decide +kernel
theorem dX12_leads_119 : decode cX12_leads 119 = .ok (.baload, 1) := by decide +kernel
theorem dX12_leads_120 : decode cX12_leads 120 = .ok (.ifCond .eq 88, 3) := by decide +kernel
theorem dX12_leads_123 : decode cX12_leads 123 = .ok (.aload_n 0, 1) := by decide +kernel
theorem dX12_leads_124 : decode cX12_leads 124 = .ok (.iload 4, 2) := by decide +kernel
theorem dX12_leads_126 : decode cX12_leads 126 = .ok (.iconst 1, 1) := by decide +kernel
theorem dX12_leads_127 : decode cX12_leads 127 = .ok (.iadd, 1) := by decide +kernel
theorem dX12_leads_128 : decode cX12_leads 128 = .ok (.aload_n 0, 1) := by decide +kernel
theorem dX12_leads_129 : decode cX12_leads 129 = .ok (.getfield 30, 3) := by decide +kernel
theorem dX12_leads_132 : decode cX12_leads 132 = .ok (.iload 7, 2) := by decide +kernel
theorem dX12_leads_134 : decode cX12_leads 134 = .ok (.iaload, 1) := by decide +kernel
theorem dX12_leads_135 : decode cX12_leads 135 = .ok (.iload 5, 2) := by decide +kernel
theorem dX12_leads_137 : decode cX12_leads 137 = .ok (.iload_n 2, 1) := by decide +kernel
theorem dX12_leads_138 : decode cX12_leads 138 = .ok (.invokevirtual 176, 3) := by decide +kernel
theorem dX12_leads_141 : decode cX12_leads 141 = .ok (.istore 8, 2) := by decide +kernel
theorem dX12_leads_143 : decode cX12_leads 143 = .ok (.iload 8, 2) := by decide +kernel
theorem dX12_leads_145 : decode cX12_leads 145 = .ok (.ifCond .eq 39, 3) := by decide +kernel
theorem dX12_leads_148 : decode cX12_leads 148 = .ok (.iload 5, 2) := by decide +kernel
theorem dX12_leads_150 : decode cX12_leads 150 = .ok (.aload_n 0, 1) := by decide +kernel
theorem dX12_leads_151 : decode cX12_leads 151 = .ok (.getfield 36, 3) := by decide +kernel
theorem dX12_leads_154 : decode cX12_leads 154 = .ok (.iload 7, 2) := by decide +kernel
theorem dX12_leads_156 : decode cX12_leads 156 = .ok (.iaload, 1) := by decide +kernel
theorem dX12_leads_157 : decode cX12_leads 157 = .ok (.if_icmp .ge 27, 3) := by decide +kernel
theorem dX12_leads_160 : decode cX12_leads 160 = .ok (.aload_n 0, 1) := by decide +kernel
theorem dX12_leads_161 : decode cX12_leads 161 = .ok (.aload_n 0, 1) := by decide +kernel
theorem dX12_leads_162 : decode cX12_leads 162 = .ok (.getfield 27, 3) := by decide +kernel
theorem dX12_leads_165 : decode cX12_leads 165 = .ok (.iload 7, 2) := by decide +kernel
theorem dX12_leads_167 : decode cX12_leads 167 = .ok (.iaload, 1) := by decide +kernel
theorem dX12_leads_168 : decode cX12_leads 168 = .ok (.aload_n 0, 1) := by decide +kernel
theorem dX12_leads_169 : decode cX12_leads 169 = .ok (.getfield 30, 3) := by decide +kernel
theorem dX12_leads_172 : decode cX12_leads 172 = .ok (.iload 7, 2) := by decide +kernel
theorem dX12_leads_174 : decode cX12_leads 174 = .ok (.iaload, 1) := by decide +kernel
theorem dX12_leads_175 : decode cX12_leads 175 = .ok (.iload 5, 2) := by decide +kernel
theorem dX12_leads_177 : decode cX12_leads 177 = .ok (.iconst 1, 1) := by decide +kernel
theorem dX12_leads_178 : decode cX12_leads 178 = .ok (.iadd, 1) := by decide +kernel
theorem dX12_leads_179 : decode cX12_leads 179 = .ok (.iload_n 2, 1) := by decide +kernel
theorem dX12_leads_180 : decode cX12_leads 180 = .ok (.invokevirtual 176, 3) := by decide +kernel
theorem dX12_leads_183 : decode cX12_leads 183 = .ok (.pop, 1) := by decide +kernel
theorem dX12_leads_184 : decode cX12_leads 184 = .ok (.iload 8, 2) := by decide +kernel
theorem dX12_leads_186 : decode cX12_leads 186 = .ok (.ifCond .eq 19, 3) := by decide +kernel
theorem dX12_leads_189 : decode cX12_leads 189 = .ok (.iload 5, 2) := by decide +kernel
theorem dX12_leads_191 : decode cX12_leads 191 = .ok (.aload_n 0, 1) := by decide +kernel
theorem dX12_leads_192 : decode cX12_leads 192 = .ok (.getfield 33, 3) := by decide +kernel
theorem dX12_leads_195 : decode cX12_leads 195 = .ok (.iload 7, 2) := by decide +kernel
theorem dX12_leads_197 : decode cX12_leads 197 = .ok (.iaload, 1) := by decide +kernel
theorem dX12_leads_198 : decode cX12_leads 198 = .ok (.if_icmp .lt 7, 3) := by decide +kernel
theorem dX12_leads_201 : decode cX12_leads 201 = .ok (.iconst 1, 1) := by decide +kernel
theorem dX12_leads_202 : decode cX12_leads 202 = .ok (.goto 4, 3) := by decide +kernel
theorem dX12_leads_205 : decode cX12_leads 205 = .ok (.iconst 0, 1) := by decide +kernel
theorem dX12_leads_206 : decode cX12_leads 206 = .ok (.istore 8, 2) := by decide +kernel
theorem dX12_leads_208 : decode cX12_leads 208 = .ok (.iload 8, 2) := by decide +kernel
theorem dX12_leads_210 : decode cX12_leads 210 = .ok (.ifCond .eq 10, 3) := by decide +kernel
theorem dX12_leads_213 : decode cX12_leads 213 = .ok (.iload 7, 2) := by decide +kernel
theorem dX12_leads_215 : decode cX12_leads 215 = .ok (.iconst 1, 1) := by decide +kernel
theorem dX12_leads_216 : decode cX12_leads 216 = .ok (.iadd, 1) := by decide +kernel
theorem dX12_leads_217 : decode cX12_leads 217 = .ok (.goto 7, 3) := by decide +kernel
theorem dX12_leads_220 : decode cX12_leads 220 = .ok (.aload_n 0, 1) := by decide +kernel
theorem dX12_leads_221 : decode cX12_leads 221 = .ok (.getfield 134, 3) := by decide +kernel
theorem dX12_leads_224 : decode cX12_leads 224 = .ok (.istore_n 3, 1) := by decide +kernel
theorem dX12_leads_225 : decode cX12_leads 225 = .ok (.iconst 1, 1) := by decide +kernel
theorem dX12_leads_226 : decode cX12_leads 226 = .ok (.istore 4, 2) := by decide +kernel
theorem dX12_leads_228 : decode cX12_leads 228 = .ok (.iload_n 3, 1) := by decide +kernel
theorem dX12_leads_229 : decode cX12_leads 229 = .ok (.istore 5, 2) := by decide +kernel
theorem dX12_leads_231 : decode cX12_leads 231 = .ok (.iload 5, 2) := by decide +kernel
theorem dX12_leads_233 : decode cX12_leads 233 = .ok (.aload_n 0, 1) := by decide +kernel
theorem dX12_leads_234 : decode cX12_leads 234 = .ok (.getfield 134, 3) := by decide +kernel
theorem dX12_leads_237 : decode cX12_leads 237 = .ok (.if_icmp .ge 57, 3) := by decide +kernel
theorem dX12_leads_240 : decode cX12_leads 240 = .ok (.iload 4, 2) := by decide +kernel
theorem dX12_leads_242 : decode cX12_leads 242 = .ok (.ifCond .eq 52, 3) := by decide +kernel
theorem dX12_leads_245 : decode cX12_leads 245 = .ok (.aload_n 0, 1) := by decide +kernel
theorem dX12_leads_246 : decode cX12_leads 246 = .ok (.aload_n 0, 1) := by decide +kernel
theorem dX12_leads_247 : decode cX12_leads 247 = .ok (.getfield 27, 3) := by decide +kernel
theorem dX12_leads_250 : decode cX12_leads 250 = .ok (.iload 5, 2) := by decide +kernel
theorem dX12_leads_252 : decode cX12_leads 252 = .ok (.iaload, 1) := by decide +kernel
theorem dX12_leads_253 : decode cX12_leads 253 = .ok (.aload_n 0, 1) := by decide +kernel
theorem dX12_leads_254 : decode cX12_leads 254 = .ok (.getfield 30, 3) := by decide +kernel
theorem dX12_leads_257 : decode cX12_leads 257 = .ok (.iload 5, 2) := by decide +kernel
theorem dX12_leads_259 : decode cX12_leads 259 = .ok (.iaload, 1) := by decide +kernel
theorem dX12_leads_260 : decode cX12_leads 260 = .ok (.aload_n 0, 1) := by decide +kernel
theorem dX12_leads_261 : decode cX12_leads 261 = .ok (.getfield 23, 3) := by decide +kernel
theorem dX12_leads_264 : decode cX12_leads 264 = .ok (.iload 5, 2) := by decide +kernel
theorem dX12_leads_266 : decode cX12_leads 266 = .ok (.baload, 1) := by decide +kernel
theorem dX12_leads_267 : decode cX12_leads 267 = .ok (.ifCond .eq 7, 3) := by decide +kernel
theorem dX12_leads_270 : decode cX12_leads 270 = .ok (.iconst 1, 1) := by decide +kernel
theorem dX12_leads_271 : decode cX12_leads 271 = .ok (.goto 4, 3) := by decide +kernel
theorem dX12_leads_274 : decode cX12_leads 274 = .ok (.iconst 0, 1) := by decide +kernel
theorem dX12_leads_275 : decode cX12_leads 275 = .ok (.iload_n 2, 1) := by decide +kernel
theorem dX12_leads_276 : decode cX12_leads 276 = .ok (.invokevirtual 176, 3) := by decide +kernel
theorem dX12_leads_279 : decode cX12_leads 279 = .ok (.pop, 1) := by decide +kernel
theorem dX12_leads_280 : decode cX12_leads 280 = .ok (.aload_n 0, 1) := by decide +kernel
theorem dX12_leads_281 : decode cX12_leads 281 = .ok (.iload 5, 2) := by decide +kernel
theorem dX12_leads_283 : decode cX12_leads 283 = .ok (.invokevirtual 180, 3) := by decide +kernel
theorem dX12_leads_286 : decode cX12_leads 286 = .ok (.istore 4, 2) := by decide +kernel
theorem dX12_leads_288 : decode cX12_leads 288 = .ok (.iinc 5 1, 3) := by decide +kernel
theorem dX12_leads_291 : decode cX12_leads 291 = .ok (.goto (-60), 3) := by decide +kernel
theorem dX12_leads_294 : decode cX12_leads 294 = .ok (.return_, 1) := by decide +kernel
theorem dX12_canEnd_0 : decode cX12_canEnd 0 = .ok (.iconst 1, 1) := by decide +kernel
theorem dX12_canEnd_1 : decode cX12_canEnd 1 = .ok (.istore_n 2, 1) := by decide +kernel
theorem dX12_canEnd_2 : decode cX12_canEnd 2 = .ok (.iconst 0, 1) := by decide +kernel
theorem dX12_canEnd_3 : decode cX12_canEnd 3 = .ok (.istore_n 3, 1) := by decide +kernel
theorem dX12_canEnd_4 : decode cX12_canEnd 4 = .ok (.iload_n 1, 1) := by decide +kernel
theorem dX12_canEnd_5 : decode cX12_canEnd 5 = .ok (.sipush 1000, 3) := by decide +kernel
theorem dX12_canEnd_8 : decode cX12_canEnd 8 = .ok (.if_icmp .eq 114, 3) := by decide +kernel
theorem dX12_canEnd_11 : decode cX12_canEnd 11 = .ok (.iload_n 1, 1) := by decide +kernel
theorem dX12_canEnd_12 : decode cX12_canEnd 12 = .ok (.bipush 100, 2) := by decide +kernel
theorem dX12_canEnd_14 : decode cX12_canEnd 14 = .ok (.idiv, 1) := by decide +kernel
theorem dX12_canEnd_15 : decode cX12_canEnd 15 = .ok (.istore 4, 2) := by decide +kernel
theorem dX12_canEnd_17 : decode cX12_canEnd 17 = .ok (.aload_n 0, 1) := by decide +kernel
theorem dX12_canEnd_18 : decode cX12_canEnd 18 = .ok (.getfield 20, 3) := by decide +kernel
theorem dX12_canEnd_21 : decode cX12_canEnd 21 = .ok (.iload 4, 2) := by decide +kernel
theorem dX12_canEnd_23 : decode cX12_canEnd 23 = .ok (.iaload, 1) := by decide +kernel
theorem dX12_canEnd_24 : decode cX12_canEnd 24 = .ok (.istore 5, 2) := by decide +kernel
theorem dX12_canEnd_26 : decode cX12_canEnd 26 = .ok (.iload_n 1, 1) := by decide +kernel
theorem dX12_canEnd_27 : decode cX12_canEnd 27 = .ok (.bipush 10, 2) := by decide +kernel
theorem dX12_canEnd_29 : decode cX12_canEnd 29 = .ok (.irem, 1) := by decide +kernel
theorem dX12_canEnd_30 : decode cX12_canEnd 30 = .ok (.aload_n 0, 1) := by decide +kernel
theorem dX12_canEnd_31 : decode cX12_canEnd 31 = .ok (.getfield 13, 3) := by decide +kernel
theorem dX12_canEnd_34 : decode cX12_canEnd 34 = .ok (.iload 4, 2) := by decide +kernel
theorem dX12_canEnd_36 : decode cX12_canEnd 36 = .ok (.iaload, 1) := by decide +kernel
theorem dX12_canEnd_37 : decode cX12_canEnd 37 = .ok (.if_icmp .lt 34, 3) := by decide +kernel
theorem dX12_canEnd_40 : decode cX12_canEnd 40 = .ok (.aload_n 0, 1) := by decide +kernel
theorem dX12_canEnd_41 : decode cX12_canEnd 41 = .ok (.getfield 23, 3) := by decide +kernel
theorem dX12_canEnd_44 : decode cX12_canEnd 44 = .ok (.iload 5, 2) := by decide +kernel
theorem dX12_canEnd_46 : decode cX12_canEnd 46 = .ok (.baload, 1) := by decide +kernel
theorem dX12_canEnd_47 : decode cX12_canEnd 47 = .ok (.ifCond .eq 20, 3) := by decide +kernel
theorem dX12_canEnd_50 : decode cX12_canEnd 50 = .ok (.iload_n 1, 1) := by decide +kernel
theorem dX12_canEnd_51 : decode cX12_canEnd 51 = .ok (.bipush 10, 2) := by decide +kernel
theorem dX12_canEnd_53 : decode cX12_canEnd 53 = .ok (.idiv, 1) := by decide +kernel
theorem dX12_canEnd_54 : decode cX12_canEnd 54 = .ok (.bipush 10, 2) := by decide +kernel
theorem dX12_canEnd_56 : decode cX12_canEnd 56 = .ok (.irem, 1) := by decide +kernel
theorem dX12_canEnd_57 : decode cX12_canEnd 57 = .ok (.aload_n 0, 1) := by decide +kernel
theorem dX12_canEnd_58 : decode cX12_canEnd 58 = .ok (.getfield 33, 3) := by decide +kernel
theorem dX12_canEnd_61 : decode cX12_canEnd 61 = .ok (.iload 5, 2) := by decide +kernel
theorem dX12_canEnd_63 : decode cX12_canEnd 63 = .ok (.iaload, 1) := by decide +kernel
theorem dX12_canEnd_64 : decode cX12_canEnd 64 = .ok (.if_icmp .lt 7, 3) := by decide +kernel
theorem dX12_canEnd_67 : decode cX12_canEnd 67 = .ok (.iconst 1, 1) := by decide +kernel
theorem dX12_canEnd_68 : decode cX12_canEnd 68 = .ok (.goto 4, 3) := by decide +kernel
theorem dX12_canEnd_71 : decode cX12_canEnd 71 = .ok (.iconst 0, 1) := by decide +kernel
theorem dX12_canEnd_72 : decode cX12_canEnd 72 = .ok (.istore_n 2, 1) := by decide +kernel
theorem dX12_canEnd_73 : decode cX12_canEnd 73 = .ok (.iload 4, 2) := by decide +kernel
theorem dX12_canEnd_75 : decode cX12_canEnd 75 = .ok (.iconst 1, 1) := by decide +kernel
theorem dX12_canEnd_76 : decode cX12_canEnd 76 = .ok (.iadd, 1) := by decide +kernel
theorem dX12_canEnd_77 : decode cX12_canEnd 77 = .ok (.istore 6, 2) := by decide +kernel
theorem dX12_canEnd_79 : decode cX12_canEnd 79 = .ok (.iload 6, 2) := by decide +kernel
theorem dX12_canEnd_81 : decode cX12_canEnd 81 = .ok (.aload_n 0, 1) := by decide +kernel
theorem dX12_canEnd_82 : decode cX12_canEnd 82 = .ok (.getfield 30, 3) := by decide +kernel
theorem dX12_canEnd_85 : decode cX12_canEnd 85 = .ok (.iload 5, 2) := by decide +kernel
theorem dX12_canEnd_87 : decode cX12_canEnd 87 = .ok (.iaload, 1) := by decide +kernel
theorem dX12_canEnd_88 : decode cX12_canEnd 88 = .ok (.if_icmp .gt 29, 3) := by decide +kernel
theorem dX12_canEnd_91 : decode cX12_canEnd 91 = .ok (.iload_n 2, 1) := by decide +kernel
theorem dX12_canEnd_92 : decode cX12_canEnd 92 = .ok (.ifCond .eq 17, 3) := by decide +kernel
theorem dX12_canEnd_95 : decode cX12_canEnd 95 = .ok (.aload_n 0, 1) := by decide +kernel
theorem dX12_canEnd_96 : decode cX12_canEnd 96 = .ok (.getfield 13, 3) := by decide +kernel
theorem dX12_canEnd_99 : decode cX12_canEnd 99 = .ok (.iload 6, 2) := by decide +kernel
theorem dX12_canEnd_101 : decode cX12_canEnd 101 = .ok (.iaload, 1) := by decide +kernel
theorem dX12_canEnd_102 : decode cX12_canEnd 102 = .ok (.ifCond .ne 7, 3) := by decide +kernel
theorem dX12_canEnd_105 : decode cX12_canEnd 105 = .ok (.iconst 1, 1) := by decide +kernel
theorem dX12_canEnd_106 : decode cX12_canEnd 106 = .ok (.goto 4, 3) := by decide +kernel
theorem dX12_canEnd_109 : decode cX12_canEnd 109 = .ok (.iconst 0, 1) := by decide +kernel
theorem dX12_canEnd_110 : decode cX12_canEnd 110 = .ok (.istore_n 2, 1) := by decide +kernel
theorem dX12_canEnd_111 : decode cX12_canEnd 111 = .ok (.iinc 6 1, 3) := by decide +kernel
theorem dX12_canEnd_114 : decode cX12_canEnd 114 = .ok (.goto (-35), 3) := by decide +kernel
theorem dX12_canEnd_117 : decode cX12_canEnd 117 = .ok (.iload 5, 2) := by decide +kernel
theorem dX12_canEnd_119 : decode cX12_canEnd 119 = .ok (.iconst 1, 1) := by decide +kernel
theorem dX12_canEnd_120 : decode cX12_canEnd 120 = .ok (.iadd, 1) := by decide +kernel
theorem dX12_canEnd_121 : decode cX12_canEnd 121 = .ok (.istore_n 3, 1) := by decide +kernel
theorem dX12_canEnd_122 : decode cX12_canEnd 122 = .ok (.iload_n 3, 1) := by decide +kernel
theorem dX12_canEnd_123 : decode cX12_canEnd 123 = .ok (.istore 4, 2) := by decide +kernel
theorem dX12_canEnd_125 : decode cX12_canEnd 125 = .ok (.iload 4, 2) := by decide +kernel
theorem dX12_canEnd_127 : decode cX12_canEnd 127 = .ok (.aload_n 0, 1) := by decide +kernel
theorem dX12_canEnd_128 : decode cX12_canEnd 128 = .ok (.getfield 134, 3) := by decide +kernel
theorem dX12_canEnd_131 : decode cX12_canEnd 131 = .ok (.if_icmp .ge 28, 3) := by decide +kernel
theorem dX12_canEnd_134 : decode cX12_canEnd 134 = .ok (.iload_n 2, 1) := by decide +kernel
theorem dX12_canEnd_135 : decode cX12_canEnd 135 = .ok (.ifCond .eq 16, 3) := by decide +kernel
theorem dX12_canEnd_138 : decode cX12_canEnd 138 = .ok (.aload_n 0, 1) := by decide +kernel
theorem dX12_canEnd_139 : decode cX12_canEnd 139 = .ok (.iload 4, 2) := by decide +kernel
theorem dX12_canEnd_141 : decode cX12_canEnd 141 = .ok (.invokevirtual 180, 3) := by decide +kernel
theorem dX12_canEnd_144 : decode cX12_canEnd 144 = .ok (.ifCond .eq 7, 3) := by decide +kernel
theorem dX12_canEnd_147 : decode cX12_canEnd 147 = .ok (.iconst 1, 1) := by decide +kernel
theorem dX12_canEnd_148 : decode cX12_canEnd 148 = .ok (.goto 4, 3) := by decide +kernel
theorem dX12_canEnd_151 : decode cX12_canEnd 151 = .ok (.iconst 0, 1) := by decide +kernel
theorem dX12_canEnd_152 : decode cX12_canEnd 152 = .ok (.istore_n 2, 1) := by decide +kernel
theorem dX12_canEnd_153 : decode cX12_canEnd 153 = .ok (.iinc 4 1, 3) := by decide +kernel
theorem dX12_canEnd_156 : decode cX12_canEnd 156 = .ok (.goto (-31), 3) := by decide +kernel
theorem dX12_canEnd_159 : decode cX12_canEnd 159 = .ok (.iload_n 2, 1) := by decide +kernel
theorem dX12_canEnd_160 : decode cX12_canEnd 160 = .ok (.ireturn, 1) := by decide +kernel
theorem dX12_hopes_0 : decode cX12_hopes 0 = .ok (.iload_n 1, 1) := by decide +kernel
theorem dX12_hopes_1 : decode cX12_hopes 1 = .ok (.istore_n 2, 1) := by decide +kernel
theorem dX12_hopes_2 : decode cX12_hopes 2 = .ok (.iload_n 2, 1) := by decide +kernel
theorem dX12_hopes_3 : decode cX12_hopes 3 = .ok (.ifCond .lt 129, 3) := by decide +kernel
theorem dX12_hopes_6 : decode cX12_hopes 6 = .ok (.iconst 0, 1) := by decide +kernel
theorem dX12_hopes_7 : decode cX12_hopes 7 = .ok (.istore_n 3, 1) := by decide +kernel
theorem dX12_hopes_8 : decode cX12_hopes 8 = .ok (.iload_n 3, 1) := by decide +kernel
theorem dX12_hopes_9 : decode cX12_hopes 9 = .ok (.sipush 1000, 3) := by decide +kernel
theorem dX12_hopes_12 : decode cX12_hopes 12 = .ok (.if_icmp .gt 114, 3) := by decide +kernel
theorem dX12_hopes_15 : decode cX12_hopes 15 = .ok (.iload_n 3, 1) := by decide +kernel
theorem dX12_hopes_16 : decode cX12_hopes 16 = .ok (.sipush 1000, 3) := by decide +kernel
theorem dX12_hopes_19 : decode cX12_hopes 19 = .ok (.if_icmp .ne 15, 3) := by decide +kernel
theorem dX12_hopes_22 : decode cX12_hopes 22 = .ok (.iload_n 2, 1) := by decide +kernel
theorem dX12_hopes_23 : decode cX12_hopes 23 = .ok (.ifCond .ne 7, 3) := by decide +kernel
theorem dX12_hopes_26 : decode cX12_hopes 26 = .ok (.iconst 1, 1) := by decide +kernel
theorem dX12_hopes_27 : decode cX12_hopes 27 = .ok (.goto 30, 3) := by decide +kernel
theorem dX12_hopes_30 : decode cX12_hopes 30 = .ok (.iconst 0, 1) := by decide +kernel
theorem dX12_hopes_31 : decode cX12_hopes 31 = .ok (.goto 26, 3) := by decide +kernel
theorem dX12_hopes_34 : decode cX12_hopes 34 = .ok (.iload_n 3, 1) := by decide +kernel
theorem dX12_hopes_35 : decode cX12_hopes 35 = .ok (.bipush 10, 2) := by decide +kernel
theorem dX12_hopes_37 : decode cX12_hopes 37 = .ok (.irem, 1) := by decide +kernel
theorem dX12_hopes_38 : decode cX12_hopes 38 = .ok (.ifCond .le 18, 3) := by decide +kernel
theorem dX12_hopes_41 : decode cX12_hopes 41 = .ok (.iload_n 3, 1) := by decide +kernel
theorem dX12_hopes_42 : decode cX12_hopes 42 = .ok (.bipush 100, 2) := by decide +kernel
theorem dX12_hopes_44 : decode cX12_hopes 44 = .ok (.idiv, 1) := by decide +kernel
theorem dX12_hopes_45 : decode cX12_hopes 45 = .ok (.aload_n 0, 1) := by decide +kernel
theorem dX12_hopes_46 : decode cX12_hopes 46 = .ok (.getfield 123, 3) := by decide +kernel
theorem dX12_hopes_49 : decode cX12_hopes 49 = .ok (.if_icmp .ge 7, 3) := by decide +kernel
theorem dX12_hopes_52 : decode cX12_hopes 52 = .ok (.iconst 1, 1) := by decide +kernel
theorem dX12_hopes_53 : decode cX12_hopes 53 = .ok (.goto 4, 3) := by decide +kernel
theorem dX12_hopes_56 : decode cX12_hopes 56 = .ok (.iconst 0, 1) := by decide +kernel
theorem dX12_hopes_57 : decode cX12_hopes 57 = .ok (.istore 4, 2) := by decide +kernel
theorem dX12_hopes_59 : decode cX12_hopes 59 = .ok (.iload 4, 2) := by decide +kernel
theorem dX12_hopes_61 : decode cX12_hopes 61 = .ok (.ifCond .eq 18, 3) := by decide +kernel
theorem dX12_hopes_64 : decode cX12_hopes 64 = .ok (.iload_n 2, 1) := by decide +kernel
theorem dX12_hopes_65 : decode cX12_hopes 65 = .ok (.iload_n 1, 1) := by decide +kernel
theorem dX12_hopes_66 : decode cX12_hopes 66 = .ok (.if_icmp .ne 13, 3) := by decide +kernel
theorem dX12_hopes_69 : decode cX12_hopes 69 = .ok (.aload_n 0, 1) := by decide +kernel
theorem dX12_hopes_70 : decode cX12_hopes 70 = .ok (.iload_n 3, 1) := by decide +kernel
theorem dX12_hopes_71 : decode cX12_hopes 71 = .ok (.invokevirtual 183, 3) := by decide +kernel
theorem dX12_hopes_74 : decode cX12_hopes 74 = .ok (.istore 4, 2) := by decide +kernel
theorem dX12_hopes_76 : decode cX12_hopes 76 = .ok (.goto 30, 3) := by decide +kernel
theorem dX12_hopes_79 : decode cX12_hopes 79 = .ok (.iload 4, 2) := by decide +kernel
theorem dX12_hopes_81 : decode cX12_hopes 81 = .ok (.ifCond .eq 25, 3) := by decide +kernel
theorem dX12_hopes_84 : decode cX12_hopes 84 = .ok (.aload_n 0, 1) := by decide +kernel
theorem dX12_hopes_85 : decode cX12_hopes 85 = .ok (.iload_n 3, 1) := by decide +kernel
theorem dX12_hopes_86 : decode cX12_hopes 86 = .ok (.aload_n 0, 1) := by decide +kernel
theorem dX12_hopes_87 : decode cX12_hopes 87 = .ok (.getfield 51, 3) := by decide +kernel
theorem dX12_hopes_90 : decode cX12_hopes 90 = .ok (.iload_n 2, 1) := by decide +kernel
theorem dX12_hopes_91 : decode cX12_hopes 91 = .ok (.iconst 1, 1) := by decide +kernel
theorem dX12_hopes_92 : decode cX12_hopes 92 = .ok (.iadd, 1) := by decide +kernel
theorem dX12_hopes_93 : decode cX12_hopes 93 = .ok (.caload, 1) := by decide +kernel
theorem dX12_hopes_94 : decode cX12_hopes 94 = .ok (.invokevirtual 186, 3) := by decide +kernel
theorem dX12_hopes_97 : decode cX12_hopes 97 = .ok (.aload_n 0, 1) := by decide +kernel
theorem dX12_hopes_98 : decode cX12_hopes 98 = .ok (.iload_n 2, 1) := by decide +kernel
theorem dX12_hopes_99 : decode cX12_hopes 99 = .ok (.iconst 1, 1) := by decide +kernel
theorem dX12_hopes_100 : decode cX12_hopes 100 = .ok (.iadd, 1) := by decide +kernel
theorem dX12_hopes_101 : decode cX12_hopes 101 = .ok (.invokevirtual 190, 3) := by decide +kernel
theorem dX12_hopes_104 : decode cX12_hopes 104 = .ok (.istore 4, 2) := by decide +kernel
theorem dX12_hopes_106 : decode cX12_hopes 106 = .ok (.aload_n 0, 1) := by decide +kernel
theorem dX12_hopes_107 : decode cX12_hopes 107 = .ok (.getfield 81, 3) := by decide +kernel
theorem dX12_hopes_110 : decode cX12_hopes 110 = .ok (.sipush 1001, 3) := by decide +kernel
theorem dX12_hopes_113 : decode cX12_hopes 113 = .ok (.iload_n 2, 1) := by decide +kernel
theorem dX12_hopes_114 : decode cX12_hopes 114 = .ok (.imul, 1) := by decide +kernel
theorem dX12_hopes_115 : decode cX12_hopes 115 = .ok (.iload_n 3, 1) := by decide +kernel
theorem dX12_hopes_116 : decode cX12_hopes 116 = .ok (.iadd, 1) := by decide +kernel
theorem dX12_hopes_117 : decode cX12_hopes 117 = .ok (.iload 4, 2) := by decide +kernel
theorem dX12_hopes_119 : decode cX12_hopes 119 = .ok (.bastore, 1) := by decide +kernel
theorem dX12_hopes_120 : decode cX12_hopes 120 = .ok (.iinc 3 1, 3) := by decide +kernel
theorem dX12_hopes_123 : decode cX12_hopes 123 = .ok (.goto (-115), 3) := by decide +kernel
theorem dX12_hopes_126 : decode cX12_hopes 126 = .ok (.iinc 2 (-1), 3) := by decide +kernel
theorem dX12_hopes_129 : decode cX12_hopes 129 = .ok (.goto (-127), 3) := by decide +kernel
theorem dX12_hopes_132 : decode cX12_hopes 132 = .ok (.return_, 1) := by decide +kernel
theorem dX12_isSome_0 : decode cX12_isSome 0 = .ok (.iconst 0, 1) := by decide +kernel
theorem dX12_isSome_1 : decode cX12_isSome 1 = .ok (.istore_n 2, 1) := by decide +kernel
theorem dX12_isSome_2 : decode cX12_isSome 2 = .ok (.iconst 0, 1) := by decide +kernel
theorem dX12_isSome_3 : decode cX12_isSome 3 = .ok (.istore_n 3, 1) := by decide +kernel
theorem dX12_isSome_4 : decode cX12_isSome 4 = .ok (.iload_n 3, 1) := by decide +kernel
theorem dX12_isSome_5 : decode cX12_isSome 5 = .ok (.aload_n 0, 1) := by decide +kernel
theorem dX12_isSome_6 : decode cX12_isSome 6 = .ok (.getfield 173, 3) := by decide +kernel
theorem dX12_isSome_9 : decode cX12_isSome 9 = .ok (.if_icmp .ge 39, 3) := by decide +kernel
theorem dX12_isSome_12 : decode cX12_isSome 12 = .ok (.iload_n 2, 1) := by decide +kernel
theorem dX12_isSome_13 : decode cX12_isSome 13 = .ok (.ifCond .ne 23, 3) := by decide +kernel
theorem dX12_isSome_16 : decode cX12_isSome 16 = .ok (.aload_n 0, 1) := by decide +kernel
theorem dX12_isSome_17 : decode cX12_isSome 17 = .ok (.getfield 81, 3) := by decide +kernel
theorem dX12_isSome_20 : decode cX12_isSome 20 = .ok (.sipush 1001, 3) := by decide +kernel
theorem dX12_isSome_23 : decode cX12_isSome 23 = .ok (.iload_n 1, 1) := by decide +kernel
theorem dX12_isSome_24 : decode cX12_isSome 24 = .ok (.imul, 1) := by decide +kernel
theorem dX12_isSome_25 : decode cX12_isSome 25 = .ok (.aload_n 0, 1) := by decide +kernel
theorem dX12_isSome_26 : decode cX12_isSome 26 = .ok (.getfield 84, 3) := by decide +kernel
theorem dX12_isSome_29 : decode cX12_isSome 29 = .ok (.iload_n 3, 1) := by decide +kernel
theorem dX12_isSome_30 : decode cX12_isSome 30 = .ok (.iaload, 1) := by decide +kernel
theorem dX12_isSome_31 : decode cX12_isSome 31 = .ok (.iadd, 1) := by decide +kernel
theorem dX12_isSome_32 : decode cX12_isSome 32 = .ok (.baload, 1) := by decide +kernel
theorem dX12_isSome_33 : decode cX12_isSome 33 = .ok (.ifCond .eq 7, 3) := by decide +kernel
theorem dX12_isSome_36 : decode cX12_isSome 36 = .ok (.iconst 1, 1) := by decide +kernel
theorem dX12_isSome_37 : decode cX12_isSome 37 = .ok (.goto 4, 3) := by decide +kernel
theorem dX12_isSome_40 : decode cX12_isSome 40 = .ok (.iconst 0, 1) := by decide +kernel
theorem dX12_isSome_41 : decode cX12_isSome 41 = .ok (.istore_n 2, 1) := by decide +kernel
theorem dX12_isSome_42 : decode cX12_isSome 42 = .ok (.iinc 3 1, 3) := by decide +kernel
theorem dX12_isSome_45 : decode cX12_isSome 45 = .ok (.goto (-41), 3) := by decide +kernel
theorem dX12_isSome_48 : decode cX12_isSome 48 = .ok (.iload_n 2, 1) := by decide +kernel
theorem dX12_isSome_49 : decode cX12_isSome 49 = .ok (.ireturn, 1) := by decide +kernel
theorem dX12_viable_0 : decode cX12_viable 0 = .ok (.iconst 0, 1) := by decide +kernel
theorem dX12_viable_1 : decode cX12_viable 1 = .ok (.istore_n 2, 1) := by decide +kernel
theorem dX12_viable_2 : decode cX12_viable 2 = .ok (.iload_n 2, 1) := by decide +kernel
theorem dX12_viable_3 : decode cX12_viable 3 = .ok (.sipush 1000, 3) := by decide +kernel
theorem dX12_viable_6 : decode cX12_viable 6 = .ok (.if_icmp .gt 27, 3) := by decide +kernel
theorem dX12_viable_9 : decode cX12_viable 9 = .ok (.aload_n 0, 1) := by decide +kernel
theorem dX12_viable_10 : decode cX12_viable 10 = .ok (.getfield 81, 3) := by decide +kernel
theorem dX12_viable_13 : decode cX12_viable 13 = .ok (.iload_n 2, 1) := by decide +kernel
theorem dX12_viable_14 : decode cX12_viable 14 = .ok (.iload_n 2, 1) := by decide +kernel
theorem dX12_viable_15 : decode cX12_viable 15 = .ok (.sipush 1000, 3) := by decide +kernel
theorem dX12_viable_18 : decode cX12_viable 18 = .ok (.if_icmp .ne 7, 3) := by decide +kernel
theorem dX12_viable_21 : decode cX12_viable 21 = .ok (.iconst 1, 1) := by decide +kernel
theorem dX12_viable_22 : decode cX12_viable 22 = .ok (.goto 4, 3) := by decide +kernel
theorem dX12_viable_25 : decode cX12_viable 25 = .ok (.iconst 0, 1) := by decide +kernel
theorem dX12_viable_26 : decode cX12_viable 26 = .ok (.bastore, 1) := by decide +kernel
theorem dX12_viable_27 : decode cX12_viable 27 = .ok (.iinc 2 1, 3) := by decide +kernel
theorem dX12_viable_30 : decode cX12_viable 30 = .ok (.goto (-28), 3) := by decide +kernel
theorem dX12_viable_33 : decode cX12_viable 33 = .ok (.iconst 0, 1) := by decide +kernel
theorem dX12_viable_34 : decode cX12_viable 34 = .ok (.istore_n 2, 1) := by decide +kernel
theorem dX12_viable_35 : decode cX12_viable 35 = .ok (.iload_n 2, 1) := by decide +kernel
theorem dX12_viable_36 : decode cX12_viable 36 = .ok (.iload_n 1, 1) := by decide +kernel
theorem dX12_viable_37 : decode cX12_viable 37 = .ok (.if_icmp .ge 139, 3) := by decide +kernel
theorem dX12_viable_40 : decode cX12_viable 40 = .ok (.iconst 0, 1) := by decide +kernel
theorem dX12_viable_41 : decode cX12_viable 41 = .ok (.istore_n 3, 1) := by decide +kernel
theorem dX12_viable_42 : decode cX12_viable 42 = .ok (.iload_n 3, 1) := by decide +kernel
theorem dX12_viable_43 : decode cX12_viable 43 = .ok (.sipush 1000, 3) := by decide +kernel
theorem dX12_viable_46 : decode cX12_viable 46 = .ok (.if_icmp .gt 26, 3) := by decide +kernel
theorem dX12_viable_49 : decode cX12_viable 49 = .ok (.aload_n 0, 1) := by decide +kernel
theorem dX12_viable_50 : decode cX12_viable 50 = .ok (.getfield 81, 3) := by decide +kernel
theorem dX12_viable_53 : decode cX12_viable 53 = .ok (.sipush 1001, 3) := by decide +kernel
theorem dX12_viable_56 : decode cX12_viable 56 = .ok (.iload_n 2, 1) := by decide +kernel
theorem dX12_viable_57 : decode cX12_viable 57 = .ok (.imul, 1) := by decide +kernel
theorem dX12_viable_58 : decode cX12_viable 58 = .ok (.sipush 1001, 3) := by decide +kernel
theorem dX12_viable_61 : decode cX12_viable 61 = .ok (.iadd, 1) := by decide +kernel
theorem dX12_viable_62 : decode cX12_viable 62 = .ok (.iload_n 3, 1) := by decide +kernel
theorem dX12_viable_63 : decode cX12_viable 63 = .ok (.iadd, 1) := by decide +kernel
theorem dX12_viable_64 : decode cX12_viable 64 = .ok (.iconst 0, 1) := by decide +kernel
theorem dX12_viable_65 : decode cX12_viable 65 = .ok (.bastore, 1) := by decide +kernel
theorem dX12_viable_66 : decode cX12_viable 66 = .ok (.iinc 3 1, 3) := by decide +kernel
theorem dX12_viable_69 : decode cX12_viable 69 = .ok (.goto (-27), 3) := by decide +kernel
theorem dX12_viable_72 : decode cX12_viable 72 = .ok (.iconst 0, 1) := by decide +kernel
theorem dX12_viable_73 : decode cX12_viable 73 = .ok (.istore_n 3, 1) := by decide +kernel
theorem dX12_viable_74 : decode cX12_viable 74 = .ok (.iconst 0, 1) := by decide +kernel
theorem dX12_viable_75 : decode cX12_viable 75 = .ok (.istore 4, 2) := by decide +kernel
theorem dX12_viable_77 : decode cX12_viable 77 = .ok (.iload 4, 2) := by decide +kernel
theorem dX12_viable_79 : decode cX12_viable 79 = .ok (.sipush 1000, 3) := by decide +kernel
theorem dX12_viable_82 : decode cX12_viable 82 = .ok (.if_icmp .gt 82, 3) := by decide +kernel
theorem dX12_viable_85 : decode cX12_viable 85 = .ok (.aload_n 0, 1) := by decide +kernel
theorem dX12_viable_86 : decode cX12_viable 86 = .ok (.getfield 81, 3) := by decide +kernel
theorem dX12_viable_89 : decode cX12_viable 89 = .ok (.sipush 1001, 3) := by decide +kernel
theorem dX12_viable_92 : decode cX12_viable 92 = .ok (.iload_n 2, 1) := by decide +kernel
theorem dX12_viable_93 : decode cX12_viable 93 = .ok (.imul, 1) := by decide +kernel
theorem dX12_viable_94 : decode cX12_viable 94 = .ok (.iload 4, 2) := by decide +kernel
theorem dX12_viable_96 : decode cX12_viable 96 = .ok (.iadd, 1) := by decide +kernel
theorem dX12_viable_97 : decode cX12_viable 97 = .ok (.baload, 1) := by decide +kernel
theorem dX12_viable_98 : decode cX12_viable 98 = .ok (.ifCond .eq 60, 3) := by decide +kernel
theorem dX12_viable_101 : decode cX12_viable 101 = .ok (.aload_n 0, 1) := by decide +kernel
theorem dX12_viable_102 : decode cX12_viable 102 = .ok (.iload 4, 2) := by decide +kernel
theorem dX12_viable_104 : decode cX12_viable 104 = .ok (.aload_n 0, 1) := by decide +kernel
theorem dX12_viable_105 : decode cX12_viable 105 = .ok (.getfield 51, 3) := by decide +kernel
theorem dX12_viable_108 : decode cX12_viable 108 = .ok (.iload_n 2, 1) := by decide +kernel
theorem dX12_viable_109 : decode cX12_viable 109 = .ok (.iconst 1, 1) := by decide +kernel
theorem dX12_viable_110 : decode cX12_viable 110 = .ok (.iadd, 1) := by decide +kernel
theorem dX12_viable_111 : decode cX12_viable 111 = .ok (.caload, 1) := by decide +kernel
theorem dX12_viable_112 : decode cX12_viable 112 = .ok (.invokevirtual 186, 3) := by decide +kernel
theorem dX12_viable_115 : decode cX12_viable 115 = .ok (.iconst 0, 1) := by decide +kernel
theorem dX12_viable_116 : decode cX12_viable 116 = .ok (.istore 5, 2) := by decide +kernel
theorem dX12_viable_118 : decode cX12_viable 118 = .ok (.iload 5, 2) := by decide +kernel
theorem dX12_viable_120 : decode cX12_viable 120 = .ok (.aload_n 0, 1) := by decide +kernel
theorem dX12_viable_121 : decode cX12_viable 121 = .ok (.getfield 173, 3) := by decide +kernel
theorem dX12_viable_124 : decode cX12_viable 124 = .ok (.if_icmp .ge 34, 3) := by decide +kernel
theorem dX12_viable_127 : decode cX12_viable 127 = .ok (.aload_n 0, 1) := by decide +kernel
theorem dX12_viable_128 : decode cX12_viable 128 = .ok (.getfield 81, 3) := by decide +kernel
theorem dX12_viable_131 : decode cX12_viable 131 = .ok (.sipush 1001, 3) := by decide +kernel
theorem dX12_viable_134 : decode cX12_viable 134 = .ok (.iload_n 2, 1) := by decide +kernel
theorem dX12_viable_135 : decode cX12_viable 135 = .ok (.imul, 1) := by decide +kernel
theorem dX12_viable_136 : decode cX12_viable 136 = .ok (.sipush 1001, 3) := by decide +kernel
theorem dX12_viable_139 : decode cX12_viable 139 = .ok (.iadd, 1) := by decide +kernel
theorem dX12_viable_140 : decode cX12_viable 140 = .ok (.aload_n 0, 1) := by decide +kernel
theorem dX12_viable_141 : decode cX12_viable 141 = .ok (.getfield 84, 3) := by decide +kernel
theorem dX12_viable_144 : decode cX12_viable 144 = .ok (.iload 5, 2) := by decide +kernel
theorem dX12_viable_146 : decode cX12_viable 146 = .ok (.iaload, 1) := by decide +kernel
theorem dX12_viable_147 : decode cX12_viable 147 = .ok (.iadd, 1) := by decide +kernel
theorem dX12_viable_148 : decode cX12_viable 148 = .ok (.iconst 1, 1) := by decide +kernel
theorem dX12_viable_149 : decode cX12_viable 149 = .ok (.bastore, 1) := by decide +kernel
theorem dX12_viable_150 : decode cX12_viable 150 = .ok (.iconst 1, 1) := by decide +kernel
theorem dX12_viable_151 : decode cX12_viable 151 = .ok (.istore_n 3, 1) := by decide +kernel
theorem dX12_viable_152 : decode cX12_viable 152 = .ok (.iinc 5 1, 3) := by decide +kernel
theorem dX12_viable_155 : decode cX12_viable 155 = .ok (.goto (-37), 3) := by decide +kernel
theorem dX12_viable_158 : decode cX12_viable 158 = .ok (.iinc 4 1, 3) := by decide +kernel
theorem dX12_viable_161 : decode cX12_viable 161 = .ok (.goto (-84), 3) := by decide +kernel
theorem dX12_viable_164 : decode cX12_viable 164 = .ok (.iload_n 3, 1) := by decide +kernel
theorem dX12_viable_165 : decode cX12_viable 165 = .ok (.ifCond .ne 5, 3) := by decide +kernel
theorem dX12_viable_168 : decode cX12_viable 168 = .ok (.iload_n 2, 1) := by decide +kernel
theorem dX12_viable_169 : decode cX12_viable 169 = .ok (.ireturn, 1) := by decide +kernel
theorem dX12_viable_170 : decode cX12_viable 170 = .ok (.iinc 2 1, 3) := by decide +kernel
theorem dX12_viable_173 : decode cX12_viable 173 = .ok (.goto (-138), 3) := by decide +kernel
theorem dX12_viable_176 : decode cX12_viable 176 = .ok (.iload_n 1, 1) := by decide +kernel
theorem dX12_viable_177 : decode cX12_viable 177 = .ok (.ireturn, 1) := by decide +kernel
theorem dX12_matches_0 : decode cX12_matches 0 = .ok (.aload_n 0, 1) := by decide +kernel
theorem dX12_matches_1 : decode cX12_matches 1 = .ok (.getfield 149, 3) := by decide +kernel
theorem dX12_matches_4 : decode cX12_matches 4 = .ok (.iconst 2, 1) := by decide +kernel
theorem dX12_matches_5 : decode cX12_matches 5 = .ok (.isub, 1) := by decide +kernel
theorem dX12_matches_6 : decode cX12_matches 6 = .ok (.istore_n 1, 1) := by decide +kernel
theorem dX12_matches_7 : decode cX12_matches 7 = .ok (.aload_n 0, 1) := by decide +kernel
theorem dX12_matches_8 : decode cX12_matches 8 = .ok (.iload_n 1, 1) := by decide +kernel
theorem dX12_matches_9 : decode cX12_matches 9 = .ok (.invokevirtual 193, 3) := by decide +kernel
theorem dX12_matches_12 : decode cX12_matches 12 = .ok (.aload_n 0, 1) := by decide +kernel
theorem dX12_matches_13 : decode cX12_matches 13 = .ok (.getfield 81, 3) := by decide +kernel
theorem dX12_matches_16 : decode cX12_matches 16 = .ok (.sipush 1000, 3) := by decide +kernel
theorem dX12_matches_19 : decode cX12_matches 19 = .ok (.baload, 1) := by decide +kernel
theorem dX12_matches_20 : decode cX12_matches 20 = .ok (.ifCond .ne 34, 3) := by decide +kernel
theorem dX12_matches_23 : decode cX12_matches 23 = .ok (.aload_n 0, 1) := by decide +kernel
theorem dX12_matches_24 : decode cX12_matches 24 = .ok (.iload_n 1, 1) := by decide +kernel
theorem dX12_matches_25 : decode cX12_matches 25 = .ok (.invokevirtual 197, 3) := by decide +kernel
theorem dX12_matches_28 : decode cX12_matches 28 = .ok (.istore_n 2, 1) := by decide +kernel
theorem dX12_matches_29 : decode cX12_matches 29 = .ok (.aload_n 0, 1) := by decide +kernel
theorem dX12_matches_30 : decode cX12_matches 30 = .ok (.iload_n 2, 1) := by decide +kernel
theorem dX12_matches_31 : decode cX12_matches 31 = .ok (.iload_n 1, 1) := by decide +kernel
theorem dX12_matches_32 : decode cX12_matches 32 = .ok (.if_icmp .ge 8, 3) := by decide +kernel
theorem dX12_matches_35 : decode cX12_matches 35 = .ok (.bipush 11, 2) := by decide +kernel
theorem dX12_matches_37 : decode cX12_matches 37 = .ok (.goto 5, 3) := by decide +kernel
theorem dX12_matches_40 : decode cX12_matches 40 = .ok (.bipush 12, 2) := by decide +kernel
theorem dX12_matches_42 : decode cX12_matches 42 = .ok (.aload_n 0, 1) := by decide +kernel
theorem dX12_matches_43 : decode cX12_matches 43 = .ok (.getfield 48, 3) := by decide +kernel
theorem dX12_matches_46 : decode cX12_matches 46 = .ok (.iload_n 2, 1) := by decide +kernel
theorem dX12_matches_47 : decode cX12_matches 47 = .ok (.iconst 1, 1) := by decide +kernel
theorem dX12_matches_48 : decode cX12_matches 48 = .ok (.iadd, 1) := by decide +kernel
theorem dX12_matches_49 : decode cX12_matches 49 = .ok (.iaload, 1) := by decide +kernel
theorem dX12_matches_50 : decode cX12_matches 50 = .ok (.invokevirtual 152, 3) := by decide +kernel
theorem dX12_matches_53 : decode cX12_matches 53 = .ok (.return_, 1) := by decide +kernel
theorem dX12_matches_54 : decode cX12_matches 54 = .ok (.sipush 1000, 3) := by decide +kernel
theorem dX12_matches_57 : decode cX12_matches 57 = .ok (.istore_n 2, 1) := by decide +kernel
theorem dX12_matches_58 : decode cX12_matches 58 = .ok (.iconst 0, 1) := by decide +kernel
theorem dX12_matches_59 : decode cX12_matches 59 = .ok (.istore_n 3, 1) := by decide +kernel
theorem dX12_matches_60 : decode cX12_matches 60 = .ok (.iload_n 3, 1) := by decide +kernel
theorem dX12_matches_61 : decode cX12_matches 61 = .ok (.iload_n 1, 1) := by decide +kernel
theorem dX12_matches_62 : decode cX12_matches 62 = .ok (.if_icmp .ge 87, 3) := by decide +kernel
theorem dX12_matches_65 : decode cX12_matches 65 = .ok (.aload_n 0, 1) := by decide +kernel
theorem dX12_matches_66 : decode cX12_matches 66 = .ok (.iload_n 2, 1) := by decide +kernel
theorem dX12_matches_67 : decode cX12_matches 67 = .ok (.aload_n 0, 1) := by decide +kernel
theorem dX12_matches_68 : decode cX12_matches 68 = .ok (.getfield 51, 3) := by decide +kernel
theorem dX12_matches_71 : decode cX12_matches 71 = .ok (.iload_n 3, 1) := by decide +kernel
theorem dX12_matches_72 : decode cX12_matches 72 = .ok (.iconst 1, 1) := by decide +kernel
theorem dX12_matches_73 : decode cX12_matches 73 = .ok (.iadd, 1) := by decide +kernel
theorem dX12_matches_74 : decode cX12_matches 74 = .ok (.caload, 1) := by decide +kernel
theorem dX12_matches_75 : decode cX12_matches 75 = .ok (.invokevirtual 186, 3) := by decide +kernel
theorem dX12_matches_78 : decode cX12_matches 78 = .ok (.iconst 0, 1) := by decide +kernel
theorem dX12_matches_79 : decode cX12_matches 79 = .ok (.istore 4, 2) := by decide +kernel
theorem dX12_matches_81 : decode cX12_matches 81 = .ok (.aload_n 0, 1) := by decide +kernel
theorem dX12_matches_82 : decode cX12_matches 82 = .ok (.getfield 81, 3) := by decide +kernel
theorem dX12_matches_85 : decode cX12_matches 85 = .ok (.sipush 1001, 3) := by decide +kernel
theorem dX12_matches_88 : decode cX12_matches 88 = .ok (.iload_n 3, 1) := by decide +kernel
theorem dX12_matches_89 : decode cX12_matches 89 = .ok (.imul, 1) := by decide +kernel
theorem dX12_matches_90 : decode cX12_matches 90 = .ok (.sipush 1001, 3) := by decide +kernel
theorem dX12_matches_93 : decode cX12_matches 93 = .ok (.iadd, 1) := by decide +kernel
theorem dX12_matches_94 : decode cX12_matches 94 = .ok (.aload_n 0, 1) := by decide +kernel
theorem dX12_matches_95 : decode cX12_matches 95 = .ok (.getfield 84, 3) := by decide +kernel
theorem dX12_matches_98 : decode cX12_matches 98 = .ok (.iload 4, 2) := by decide +kernel
theorem dX12_matches_100 : decode cX12_matches 100 = .ok (.iaload, 1) := by decide +kernel
theorem dX12_matches_101 : decode cX12_matches 101 = .ok (.iadd, 1) := by decide +kernel
theorem dX12_matches_102 : decode cX12_matches 102 = .ok (.baload, 1) := by decide +kernel
theorem dX12_matches_103 : decode cX12_matches 103 = .ok (.ifCond .ne 9, 3) := by decide +kernel
theorem dX12_matches_106 : decode cX12_matches 106 = .ok (.iinc 4 1, 3) := by decide +kernel
theorem dX12_matches_109 : decode cX12_matches 109 = .ok (.goto (-28), 3) := by decide +kernel
theorem dX12_matches_112 : decode cX12_matches 112 = .ok (.aload_n 0, 1) := by decide +kernel
theorem dX12_matches_113 : decode cX12_matches 113 = .ok (.getfield 84, 3) := by decide +kernel
theorem dX12_matches_116 : decode cX12_matches 116 = .ok (.iload 4, 2) := by decide +kernel
theorem dX12_matches_118 : decode cX12_matches 118 = .ok (.iaload, 1) := by decide +kernel
theorem dX12_matches_119 : decode cX12_matches 119 = .ok (.istore_n 2, 1) := by decide +kernel
theorem dX12_matches_120 : decode cX12_matches 120 = .ok (.aload_n 0, 1) := by decide +kernel
theorem dX12_matches_121 : decode cX12_matches 121 = .ok (.getfield 75, 3) := by decide +kernel
theorem dX12_matches_124 : decode cX12_matches 124 = .ok (.iload_n 3, 1) := by decide +kernel
theorem dX12_matches_125 : decode cX12_matches 125 = .ok (.iload_n 2, 1) := by decide +kernel
theorem dX12_matches_126 : decode cX12_matches 126 = .ok (.bipush 100, 2) := by decide +kernel
theorem dX12_matches_128 : decode cX12_matches 128 = .ok (.idiv, 1) := by decide +kernel
theorem dX12_matches_129 : decode cX12_matches 129 = .ok (.iastore, 1) := by decide +kernel
theorem dX12_matches_130 : decode cX12_matches 130 = .ok (.aload_n 0, 1) := by decide +kernel
theorem dX12_matches_131 : decode cX12_matches 131 = .ok (.getfield 78, 3) := by decide +kernel
theorem dX12_matches_134 : decode cX12_matches 134 = .ok (.iload_n 3, 1) := by decide +kernel
theorem dX12_matches_135 : decode cX12_matches 135 = .ok (.iload_n 2, 1) := by decide +kernel
theorem dX12_matches_136 : decode cX12_matches 136 = .ok (.bipush 10, 2) := by decide +kernel
theorem dX12_matches_138 : decode cX12_matches 138 = .ok (.idiv, 1) := by decide +kernel
theorem dX12_matches_139 : decode cX12_matches 139 = .ok (.bipush 10, 2) := by decide +kernel
theorem dX12_matches_141 : decode cX12_matches 141 = .ok (.irem, 1) := by decide +kernel
theorem dX12_matches_142 : decode cX12_matches 142 = .ok (.iastore, 1) := by decide +kernel
theorem dX12_matches_143 : decode cX12_matches 143 = .ok (.iinc 3 1, 3) := by decide +kernel
theorem dX12_matches_146 : decode cX12_matches 146 = .ok (.goto (-86), 3) := by decide +kernel
theorem dX12_matches_149 : decode cX12_matches 149 = .ok (.return_, 1) := by decide +kernel
theorem dX12_accepts_0 : decode cX12_accepts 0 = .ok (.aload_n 0, 1) := by decide +kernel
theorem dX12_accepts_1 : decode cX12_accepts 1 = .ok (.iconst 1, 1) := by decide +kernel
theorem dX12_accepts_2 : decode cX12_accepts 2 = .ok (.putfield 140, 3) := by decide +kernel
theorem dX12_accepts_5 : decode cX12_accepts 5 = .ok (.aload_n 0, 1) := by decide +kernel
theorem dX12_accepts_6 : decode cX12_accepts 6 = .ok (.iconst 1, 1) := by decide +kernel
theorem dX12_accepts_7 : decode cX12_accepts 7 = .ok (.putfield 167, 3) := by decide +kernel
theorem dX12_accepts_10 : decode cX12_accepts 10 = .ok (.aload_n 0, 1) := by decide +kernel
theorem dX12_accepts_11 : decode cX12_accepts 11 = .ok (.aload_n 0, 1) := by decide +kernel
theorem dX12_accepts_12 : decode cX12_accepts 12 = .ok (.iconst 0, 1) := by decide +kernel
theorem dX12_accepts_13 : decode cX12_accepts 13 = .ok (.iconst 0, 1) := by decide +kernel
theorem dX12_accepts_14 : decode cX12_accepts 14 = .ok (.invokevirtual 163, 3) := by decide +kernel
theorem dX12_accepts_17 : decode cX12_accepts 17 = .ok (.putfield 170, 3) := by decide +kernel
theorem dX12_accepts_20 : decode cX12_accepts 20 = .ok (.aload_n 0, 1) := by decide +kernel
theorem dX12_accepts_21 : decode cX12_accepts 21 = .ok (.aload_n 0, 1) := by decide +kernel
theorem dX12_accepts_22 : decode cX12_accepts 22 = .ok (.getfield 149, 3) := by decide +kernel
theorem dX12_accepts_25 : decode cX12_accepts 25 = .ok (.iconst 2, 1) := by decide +kernel
theorem dX12_accepts_26 : decode cX12_accepts 26 = .ok (.isub, 1) := by decide +kernel
theorem dX12_accepts_27 : decode cX12_accepts 27 = .ok (.putfield 200, 3) := by decide +kernel
theorem dX12_accepts_30 : decode cX12_accepts 30 = .ok (.iconst 0, 1) := by decide +kernel
theorem dX12_accepts_31 : decode cX12_accepts 31 = .ok (.istore_n 1, 1) := by decide +kernel
theorem dX12_accepts_32 : decode cX12_accepts 32 = .ok (.iload_n 1, 1) := by decide +kernel
theorem dX12_accepts_33 : decode cX12_accepts 33 = .ok (.aload_n 0, 1) := by decide +kernel
theorem dX12_accepts_34 : decode cX12_accepts 34 = .ok (.getfield 200, 3) := by decide +kernel
theorem dX12_accepts_37 : decode cX12_accepts 37 = .ok (.if_icmp .ge 131, 3) := by decide +kernel
theorem dX12_accepts_40 : decode cX12_accepts 40 = .ok (.aload_n 0, 1) := by decide +kernel
theorem dX12_accepts_41 : decode cX12_accepts 41 = .ok (.getfield 63, 3) := by decide +kernel
theorem dX12_accepts_44 : decode cX12_accepts 44 = .ok (.iload_n 1, 1) := by decide +kernel
theorem dX12_accepts_45 : decode cX12_accepts 45 = .ok (.aload_n 0, 1) := by decide +kernel
theorem dX12_accepts_46 : decode cX12_accepts 46 = .ok (.getfield 51, 3) := by decide +kernel
theorem dX12_accepts_49 : decode cX12_accepts 49 = .ok (.iload_n 1, 1) := by decide +kernel
theorem dX12_accepts_50 : decode cX12_accepts 50 = .ok (.iconst 1, 1) := by decide +kernel
theorem dX12_accepts_51 : decode cX12_accepts 51 = .ok (.iadd, 1) := by decide +kernel
theorem dX12_accepts_52 : decode cX12_accepts 52 = .ok (.caload, 1) := by decide +kernel
theorem dX12_accepts_53 : decode cX12_accepts 53 = .ok (.castore, 1) := by decide +kernel
theorem dX12_accepts_54 : decode cX12_accepts 54 = .ok (.aload_n 0, 1) := by decide +kernel
theorem dX12_accepts_55 : decode cX12_accepts 55 = .ok (.getfield 66, 3) := by decide +kernel
theorem dX12_accepts_58 : decode cX12_accepts 58 = .ok (.iload_n 1, 1) := by decide +kernel
theorem dX12_accepts_59 : decode cX12_accepts 59 = .ok (.aload_n 0, 1) := by decide +kernel
theorem dX12_accepts_60 : decode cX12_accepts 60 = .ok (.getfield 54, 3) := by decide +kernel
theorem dX12_accepts_63 : decode cX12_accepts 63 = .ok (.iload_n 1, 1) := by decide +kernel
theorem dX12_accepts_64 : decode cX12_accepts 64 = .ok (.iconst 1, 1) := by decide +kernel
theorem dX12_accepts_65 : decode cX12_accepts 65 = .ok (.iadd, 1) := by decide +kernel
theorem dX12_accepts_66 : decode cX12_accepts 66 = .ok (.iaload, 1) := by decide +kernel
theorem dX12_accepts_67 : decode cX12_accepts 67 = .ok (.iastore, 1) := by decide +kernel
theorem dX12_accepts_68 : decode cX12_accepts 68 = .ok (.iconst 0, 1) := by decide +kernel
theorem dX12_accepts_69 : decode cX12_accepts 69 = .ok (.istore_n 2, 1) := by decide +kernel
theorem dX12_accepts_70 : decode cX12_accepts 70 = .ok (.iload_n 2, 1) := by decide +kernel
theorem dX12_accepts_71 : decode cX12_accepts 71 = .ok (.aload_n 0, 1) := by decide +kernel
theorem dX12_accepts_72 : decode cX12_accepts 72 = .ok (.getfield 66, 3) := by decide +kernel
theorem dX12_accepts_75 : decode cX12_accepts 75 = .ok (.iload_n 1, 1) := by decide +kernel
theorem dX12_accepts_76 : decode cX12_accepts 76 = .ok (.iaload, 1) := by decide +kernel
theorem dX12_accepts_77 : decode cX12_accepts 77 = .ok (.if_icmp .ge 85, 3) := by decide +kernel
theorem dX12_accepts_80 : decode cX12_accepts 80 = .ok (.aload_n 0, 1) := by decide +kernel
theorem dX12_accepts_81 : decode cX12_accepts 81 = .ok (.getfield 69, 3) := by decide +kernel
theorem dX12_accepts_84 : decode cX12_accepts 84 = .ok (.iconst 5, 1) := by decide +kernel
theorem dX12_accepts_85 : decode cX12_accepts 85 = .ok (.iload_n 1, 1) := by decide +kernel
theorem dX12_accepts_86 : decode cX12_accepts 86 = .ok (.imul, 1) := by decide +kernel
theorem dX12_accepts_87 : decode cX12_accepts 87 = .ok (.iload_n 2, 1) := by decide +kernel
theorem dX12_accepts_88 : decode cX12_accepts 88 = .ok (.iadd, 1) := by decide +kernel
theorem dX12_accepts_89 : decode cX12_accepts 89 = .ok (.aload_n 0, 1) := by decide +kernel
theorem dX12_accepts_90 : decode cX12_accepts 90 = .ok (.getfield 57, 3) := by decide +kernel
theorem dX12_accepts_93 : decode cX12_accepts 93 = .ok (.iconst 5, 1) := by decide +kernel
theorem dX12_accepts_94 : decode cX12_accepts 94 = .ok (.iload_n 1, 1) := by decide +kernel
theorem dX12_accepts_95 : decode cX12_accepts 95 = .ok (.imul, 1) := by decide +kernel
theorem dX12_accepts_96 : decode cX12_accepts 96 = .ok (.iconst 5, 1) := by decide +kernel
theorem dX12_accepts_97 : decode cX12_accepts 97 = .ok (.iadd, 1) := by decide +kernel
theorem dX12_accepts_98 : decode cX12_accepts 98 = .ok (.iload_n 2, 1) := by decide +kernel
theorem dX12_accepts_99 : decode cX12_accepts 99 = .ok (.iadd, 1) := by decide +kernel
theorem dX12_accepts_100 : decode cX12_accepts 100 = .ok (.iaload, 1) := by decide +kernel
theorem dX12_accepts_101 : decode cX12_accepts 101 = .ok (.iastore, 1) := by decide +kernel
theorem dX12_accepts_102 : decode cX12_accepts 102 = .ok (.iconst 0, 1) := by decide +kernel
theorem dX12_accepts_103 : decode cX12_accepts 103 = .ok (.istore_n 3, 1) := by decide +kernel
theorem dX12_accepts_104 : decode cX12_accepts 104 = .ok (.iload_n 3, 1) := by decide +kernel
theorem dX12_accepts_105 : decode cX12_accepts 105 = .ok (.aload_n 0, 1) := by decide +kernel
theorem dX12_accepts_106 : decode cX12_accepts 106 = .ok (.getfield 69, 3) := by decide +kernel
theorem dX12_accepts_109 : decode cX12_accepts 109 = .ok (.iconst 5, 1) := by decide +kernel
theorem dX12_accepts_110 : decode cX12_accepts 110 = .ok (.iload_n 1, 1) := by decide +kernel
theorem dX12_accepts_111 : decode cX12_accepts 111 = .ok (.imul, 1) := by decide +kernel
theorem dX12_accepts_112 : decode cX12_accepts 112 = .ok (.iload_n 2, 1) := by decide +kernel
theorem dX12_accepts_113 : decode cX12_accepts 113 = .ok (.iadd, 1) := by decide +kernel
theorem dX12_accepts_114 : decode cX12_accepts 114 = .ok (.iaload, 1) := by decide +kernel
theorem dX12_accepts_115 : decode cX12_accepts 115 = .ok (.if_icmp .ge 41, 3) := by decide +kernel
theorem dX12_accepts_118 : decode cX12_accepts 118 = .ok (.aload_n 0, 1) := by decide +kernel
theorem dX12_accepts_119 : decode cX12_accepts 119 = .ok (.getfield 72, 3) := by decide +kernel
theorem dX12_accepts_122 : decode cX12_accepts 122 = .ok (.bipush 8, 2) := by decide +kernel
theorem dX12_accepts_124 : decode cX12_accepts 124 = .ok (.iconst 5, 1) := by decide +kernel
theorem dX12_accepts_125 : decode cX12_accepts 125 = .ok (.iload_n 1, 1) := by decide +kernel
theorem dX12_accepts_126 : decode cX12_accepts 126 = .ok (.imul, 1) := by decide +kernel
theorem dX12_accepts_127 : decode cX12_accepts 127 = .ok (.iload_n 2, 1) := by decide +kernel
theorem dX12_accepts_128 : decode cX12_accepts 128 = .ok (.iadd, 1) := by decide +kernel
theorem dX12_accepts_129 : decode cX12_accepts 129 = .ok (.imul, 1) := by decide +kernel
theorem dX12_accepts_130 : decode cX12_accepts 130 = .ok (.iload_n 3, 1) := by decide +kernel
theorem dX12_accepts_131 : decode cX12_accepts 131 = .ok (.iadd, 1) := by decide +kernel
theorem dX12_accepts_132 : decode cX12_accepts 132 = .ok (.aload_n 0, 1) := by decide +kernel
theorem dX12_accepts_133 : decode cX12_accepts 133 = .ok (.getfield 60, 3) := by decide +kernel
theorem dX12_accepts_136 : decode cX12_accepts 136 = .ok (.bipush 8, 2) := by decide +kernel
theorem dX12_accepts_138 : decode cX12_accepts 138 = .ok (.iconst 5, 1) := by decide +kernel
theorem dX12_accepts_139 : decode cX12_accepts 139 = .ok (.iload_n 1, 1) := by decide +kernel
theorem dX12_accepts_140 : decode cX12_accepts 140 = .ok (.imul, 1) := by decide +kernel
theorem dX12_accepts_141 : decode cX12_accepts 141 = .ok (.iconst 5, 1) := by decide +kernel
theorem dX12_accepts_142 : decode cX12_accepts 142 = .ok (.iadd, 1) := by decide +kernel
theorem dX12_accepts_143 : decode cX12_accepts 143 = .ok (.iload_n 2, 1) := by decide +kernel
theorem dX12_accepts_144 : decode cX12_accepts 144 = .ok (.iadd, 1) := by decide +kernel
theorem dX12_accepts_145 : decode cX12_accepts 145 = .ok (.imul, 1) := by decide +kernel
theorem dX12_accepts_146 : decode cX12_accepts 146 = .ok (.iload_n 3, 1) := by decide +kernel
theorem dX12_accepts_147 : decode cX12_accepts 147 = .ok (.iadd, 1) := by decide +kernel
theorem dX12_accepts_148 : decode cX12_accepts 148 = .ok (.caload, 1) := by decide +kernel
theorem dX12_accepts_149 : decode cX12_accepts 149 = .ok (.castore, 1) := by decide +kernel
theorem dX12_accepts_150 : decode cX12_accepts 150 = .ok (.iinc 3 1, 3) := by decide +kernel
theorem dX12_accepts_153 : decode cX12_accepts 153 = .ok (.goto (-49), 3) := by decide +kernel
theorem dX12_accepts_156 : decode cX12_accepts 156 = .ok (.iinc 2 1, 3) := by decide +kernel
theorem dX12_accepts_159 : decode cX12_accepts 159 = .ok (.goto (-89), 3) := by decide +kernel
theorem dX12_accepts_162 : decode cX12_accepts 162 = .ok (.iinc 1 1, 3) := by decide +kernel
theorem dX12_accepts_165 : decode cX12_accepts 165 = .ok (.goto (-133), 3) := by decide +kernel
theorem dX12_accepts_168 : decode cX12_accepts 168 = .ok (.return_, 1) := by decide +kernel
theorem dX12_read_0 : decode cX12_read 0 = .ok (.aload_n 0, 1) := by decide +kernel
theorem dX12_read_1 : decode cX12_read 1 = .ok (.aload_n 0, 1) := by decide +kernel
theorem dX12_read_2 : decode cX12_read 2 = .ok (.getfield 130, 3) := by decide +kernel
theorem dX12_read_5 : decode cX12_read 5 = .ok (.ifCond .eq 7, 3) := by decide +kernel
theorem dX12_read_8 : decode cX12_read 8 = .ok (.iconst 1, 1) := by decide +kernel
theorem dX12_read_9 : decode cX12_read 9 = .ok (.goto 4, 3) := by decide +kernel
theorem dX12_read_12 : decode cX12_read 12 = .ok (.iconst 0, 1) := by decide +kernel
theorem dX12_read_13 : decode cX12_read 13 = .ok (.invokevirtual 126, 3) := by decide +kernel
theorem dX12_read_16 : decode cX12_read 16 = .ok (.ifCond .ne 5, 3) := by decide +kernel
theorem dX12_read_19 : decode cX12_read 19 = .ok (.iconst 0, 1) := by decide +kernel
theorem dX12_read_20 : decode cX12_read 20 = .ok (.ireturn, 1) := by decide +kernel
theorem dX12_read_21 : decode cX12_read 21 = .ok (.aload_n 0, 1) := by decide +kernel
theorem dX12_read_22 : decode cX12_read 22 = .ok (.iconst 0, 1) := by decide +kernel
theorem dX12_read_23 : decode cX12_read 23 = .ok (.putfield 146, 3) := by decide +kernel
theorem dX12_read_26 : decode cX12_read 26 = .ok (.aload_n 0, 1) := by decide +kernel
theorem dX12_read_27 : decode cX12_read 27 = .ok (.invokevirtual 203, 3) := by decide +kernel
theorem dX12_read_30 : decode cX12_read 30 = .ok (.aload_n 0, 1) := by decide +kernel
theorem dX12_read_31 : decode cX12_read 31 = .ok (.getfield 146, 3) := by decide +kernel
theorem dX12_read_34 : decode cX12_read 34 = .ok (.ifCond .ne 7, 3) := by decide +kernel
theorem dX12_read_37 : decode cX12_read 37 = .ok (.aload_n 0, 1) := by decide +kernel
theorem dX12_read_38 : decode cX12_read 38 = .ok (.invokevirtual 206, 3) := by decide +kernel
theorem dX12_read_41 : decode cX12_read 41 = .ok (.aload_n 0, 1) := by decide +kernel
theorem dX12_read_42 : decode cX12_read 42 = .ok (.getfield 146, 3) := by decide +kernel
theorem dX12_read_45 : decode cX12_read 45 = .ok (.ifCond .ne 7, 3) := by decide +kernel
theorem dX12_read_48 : decode cX12_read 48 = .ok (.aload_n 0, 1) := by decide +kernel
theorem dX12_read_49 : decode cX12_read 49 = .ok (.invokevirtual 209, 3) := by decide +kernel
theorem dX12_read_52 : decode cX12_read 52 = .ok (.aload_n 0, 1) := by decide +kernel
theorem dX12_read_53 : decode cX12_read 53 = .ok (.getfield 146, 3) := by decide +kernel
theorem dX12_read_56 : decode cX12_read 56 = .ok (.ifCond .ne 7, 3) := by decide +kernel
theorem dX12_read_59 : decode cX12_read 59 = .ok (.aload_n 0, 1) := by decide +kernel
theorem dX12_read_60 : decode cX12_read 60 = .ok (.invokevirtual 212, 3) := by decide +kernel
theorem dX12_read_63 : decode cX12_read 63 = .ok (.aload_n 0, 1) := by decide +kernel
theorem dX12_read_64 : decode cX12_read 64 = .ok (.getfield 146, 3) := by decide +kernel
theorem dX12_read_67 : decode cX12_read 67 = .ok (.ifCond .ne 7, 3) := by decide +kernel
theorem dX12_read_70 : decode cX12_read 70 = .ok (.aload_n 0, 1) := by decide +kernel
theorem dX12_read_71 : decode cX12_read 71 = .ok (.invokevirtual 215, 3) := by decide +kernel
theorem dX12_read_74 : decode cX12_read 74 = .ok (.aload_n 0, 1) := by decide +kernel
theorem dX12_read_75 : decode cX12_read 75 = .ok (.iconst 0, 1) := by decide +kernel
theorem dX12_read_76 : decode cX12_read 76 = .ok (.putfield 143, 3) := by decide +kernel
theorem dX12_read_79 : decode cX12_read 79 = .ok (.aload_n 0, 1) := by decide +kernel
theorem dX12_read_80 : decode cX12_read 80 = .ok (.getfield 146, 3) := by decide +kernel
theorem dX12_read_83 : decode cX12_read 83 = .ok (.ireturn, 1) := by decide +kernel
theorem dX12_faultKind_0 : decode cX12_faultKind 0 = .ok (.aload_n 0, 1) := by decide +kernel
theorem dX12_faultKind_1 : decode cX12_faultKind 1 = .ok (.iload_n 1, 1) := by decide +kernel
theorem dX12_faultKind_2 : decode cX12_faultKind 2 = .ok (.iconst 0, 1) := by decide +kernel
theorem dX12_faultKind_3 : decode cX12_faultKind 3 = .ok (.aload_n 0, 1) := by decide +kernel
theorem dX12_faultKind_4 : decode cX12_faultKind 4 = .ok (.getfield 146, 3) := by decide +kernel
theorem dX12_faultKind_7 : decode cX12_faultKind 7 = .ok (.iconst 1, 1) := by decide +kernel
theorem dX12_faultKind_8 : decode cX12_faultKind 8 = .ok (.isub, 1) := by decide +kernel
theorem dX12_faultKind_9 : decode cX12_faultKind 9 = .ok (.invokestatic 115, 3) := by decide +kernel
theorem dX12_faultKind_12 : decode cX12_faultKind 12 = .ok (.ifCond .eq 7, 3) := by decide +kernel
theorem dX12_faultKind_15 : decode cX12_faultKind 15 = .ok (.iconst 0, 1) := by decide +kernel
theorem dX12_faultKind_16 : decode cX12_faultKind 16 = .ok (.goto 4, 3) := by decide +kernel
theorem dX12_faultKind_19 : decode cX12_faultKind 19 = .ok (.iconst 1, 1) := by decide +kernel
theorem dX12_faultKind_20 : decode cX12_faultKind 20 = .ok (.invokevirtual 126, 3) := by decide +kernel
theorem dX12_faultKind_23 : decode cX12_faultKind 23 = .ok (.ifCond .eq 12, 3) := by decide +kernel
theorem dX12_faultKind_26 : decode cX12_faultKind 26 = .ok (.aload_n 0, 1) := by decide +kernel
theorem dX12_faultKind_27 : decode cX12_faultKind 27 = .ok (.getfield 42, 3) := by decide +kernel
theorem dX12_faultKind_30 : decode cX12_faultKind 30 = .ok (.iload_n 1, 1) := by decide +kernel
theorem dX12_faultKind_31 : decode cX12_faultKind 31 = .ok (.iaload, 1) := by decide +kernel
theorem dX12_faultKind_32 : decode cX12_faultKind 32 = .ok (.goto 4, 3) := by decide +kernel
theorem dX12_faultKind_35 : decode cX12_faultKind 35 = .ok (.iconst 0, 1) := by decide +kernel
theorem dX12_faultKind_36 : decode cX12_faultKind 36 = .ok (.ireturn, 1) := by decide +kernel
theorem dX12_faultPlace_0 : decode cX12_faultPlace 0 = .ok (.aload_n 0, 1) := by decide +kernel
theorem dX12_faultPlace_1 : decode cX12_faultPlace 1 = .ok (.iload_n 1, 1) := by decide +kernel
theorem dX12_faultPlace_2 : decode cX12_faultPlace 2 = .ok (.iconst 0, 1) := by decide +kernel
theorem dX12_faultPlace_3 : decode cX12_faultPlace 3 = .ok (.aload_n 0, 1) := by decide +kernel
theorem dX12_faultPlace_4 : decode cX12_faultPlace 4 = .ok (.getfield 146, 3) := by decide +kernel
theorem dX12_faultPlace_7 : decode cX12_faultPlace 7 = .ok (.iconst 1, 1) := by decide +kernel
theorem dX12_faultPlace_8 : decode cX12_faultPlace 8 = .ok (.isub, 1) := by decide +kernel
theorem dX12_faultPlace_9 : decode cX12_faultPlace 9 = .ok (.invokestatic 115, 3) := by decide +kernel
theorem dX12_faultPlace_12 : decode cX12_faultPlace 12 = .ok (.ifCond .eq 7, 3) := by decide +kernel
theorem dX12_faultPlace_15 : decode cX12_faultPlace 15 = .ok (.iconst 0, 1) := by decide +kernel
theorem dX12_faultPlace_16 : decode cX12_faultPlace 16 = .ok (.goto 4, 3) := by decide +kernel
theorem dX12_faultPlace_19 : decode cX12_faultPlace 19 = .ok (.iconst 1, 1) := by decide +kernel
theorem dX12_faultPlace_20 : decode cX12_faultPlace 20 = .ok (.invokevirtual 126, 3) := by decide +kernel
theorem dX12_faultPlace_23 : decode cX12_faultPlace 23 = .ok (.ifCond .eq 12, 3) := by decide +kernel
theorem dX12_faultPlace_26 : decode cX12_faultPlace 26 = .ok (.aload_n 0, 1) := by decide +kernel
theorem dX12_faultPlace_27 : decode cX12_faultPlace 27 = .ok (.getfield 45, 3) := by decide +kernel
theorem dX12_faultPlace_30 : decode cX12_faultPlace 30 = .ok (.iload_n 1, 1) := by decide +kernel
theorem dX12_faultPlace_31 : decode cX12_faultPlace 31 = .ok (.iaload, 1) := by decide +kernel
theorem dX12_faultPlace_32 : decode cX12_faultPlace 32 = .ok (.goto 4, 3) := by decide +kernel
theorem dX12_faultPlace_35 : decode cX12_faultPlace 35 = .ok (.iconst 0, 1) := by decide +kernel
theorem dX12_faultPlace_36 : decode cX12_faultPlace 36 = .ok (.ireturn, 1) := by decide +kernel
theorem dX12_control_0 : decode cX12_control 0 = .ok (.aload_n 0, 1) := by decide +kernel
theorem dX12_control_1 : decode cX12_control 1 = .ok (.aload_n 0, 1) := by decide +kernel
theorem dX12_control_2 : decode cX12_control 2 = .ok (.getfield 167, 3) := by decide +kernel
theorem dX12_control_5 : decode cX12_control 5 = .ok (.ifCond .eq 7, 3) := by decide +kernel
theorem dX12_control_8 : decode cX12_control 8 = .ok (.iconst 0, 1) := by decide +kernel
theorem dX12_control_9 : decode cX12_control 9 = .ok (.goto 4, 3) := by decide +kernel
theorem dX12_control_12 : decode cX12_control 12 = .ok (.iconst 1, 1) := by decide +kernel
theorem dX12_control_13 : decode cX12_control 13 = .ok (.invokevirtual 126, 3) := by decide +kernel
theorem dX12_control_16 : decode cX12_control 16 = .ok (.ifCond .eq 10, 3) := by decide +kernel
theorem dX12_control_19 : decode cX12_control 19 = .ok (.aload_n 0, 1) := by decide +kernel
theorem dX12_control_20 : decode cX12_control 20 = .ok (.getfield 170, 3) := by decide +kernel
theorem dX12_control_23 : decode cX12_control 23 = .ok (.goto 4, 3) := by decide +kernel
theorem dX12_control_26 : decode cX12_control 26 = .ok (.iconst 0, 1) := by decide +kernel
theorem dX12_control_27 : decode cX12_control 27 = .ok (.ireturn, 1) := by decide +kernel
theorem dX12_segments_0 : decode cX12_segments 0 = .ok (.aload_n 0, 1) := by decide +kernel
theorem dX12_segments_1 : decode cX12_segments 1 = .ok (.aload_n 0, 1) := by decide +kernel
theorem dX12_segments_2 : decode cX12_segments 2 = .ok (.getfield 140, 3) := by decide +kernel
theorem dX12_segments_5 : decode cX12_segments 5 = .ok (.ifCond .eq 7, 3) := by decide +kernel
theorem dX12_segments_8 : decode cX12_segments 8 = .ok (.iconst 0, 1) := by decide +kernel
theorem dX12_segments_9 : decode cX12_segments 9 = .ok (.goto 4, 3) := by decide +kernel
theorem dX12_segments_12 : decode cX12_segments 12 = .ok (.iconst 1, 1) := by decide +kernel
theorem dX12_segments_13 : decode cX12_segments 13 = .ok (.invokevirtual 126, 3) := by decide +kernel
theorem dX12_segments_16 : decode cX12_segments 16 = .ok (.ifCond .eq 10, 3) := by decide +kernel
theorem dX12_segments_19 : decode cX12_segments 19 = .ok (.aload_n 0, 1) := by decide +kernel
theorem dX12_segments_20 : decode cX12_segments 20 = .ok (.getfield 200, 3) := by decide +kernel
theorem dX12_segments_23 : decode cX12_segments 23 = .ok (.goto 4, 3) := by decide +kernel
theorem dX12_segments_26 : decode cX12_segments 26 = .ok (.iconst 0, 1) := by decide +kernel
theorem dX12_segments_27 : decode cX12_segments 27 = .ok (.ireturn, 1) := by decide +kernel
theorem dX12_wrong_0 : decode cX12_wrong 0 = .ok (.aload_n 0, 1) := by decide +kernel
theorem dX12_wrong_1 : decode cX12_wrong 1 = .ok (.getfield 140, 3) := by decide +kernel
theorem dX12_wrong_4 : decode cX12_wrong 4 = .ok (.ifCond .ne 7, 3) := by decide +kernel
theorem dX12_wrong_7 : decode cX12_wrong 7 = .ok (.iconst 1, 1) := by decide +kernel
theorem dX12_wrong_8 : decode cX12_wrong 8 = .ok (.goto 22, 3) := by decide +kernel
theorem dX12_wrong_11 : decode cX12_wrong 11 = .ok (.iload_n 1, 1) := by decide +kernel
theorem dX12_wrong_12 : decode cX12_wrong 12 = .ok (.iconst 0, 1) := by decide +kernel
theorem dX12_wrong_13 : decode cX12_wrong 13 = .ok (.aload_n 0, 1) := by decide +kernel
theorem dX12_wrong_14 : decode cX12_wrong 14 = .ok (.getfield 200, 3) := by decide +kernel
theorem dX12_wrong_17 : decode cX12_wrong 17 = .ok (.iconst 1, 1) := by decide +kernel
theorem dX12_wrong_18 : decode cX12_wrong 18 = .ok (.isub, 1) := by decide +kernel
theorem dX12_wrong_19 : decode cX12_wrong 19 = .ok (.invokestatic 115, 3) := by decide +kernel
theorem dX12_wrong_22 : decode cX12_wrong 22 = .ok (.ifCond .ne 7, 3) := by decide +kernel
theorem dX12_wrong_25 : decode cX12_wrong 25 = .ok (.iconst 2, 1) := by decide +kernel
theorem dX12_wrong_26 : decode cX12_wrong 26 = .ok (.goto 4, 3) := by decide +kernel
theorem dX12_wrong_29 : decode cX12_wrong 29 = .ok (.iconst 0, 1) := by decide +kernel
theorem dX12_wrong_30 : decode cX12_wrong 30 = .ok (.ireturn, 1) := by decide +kernel
theorem dX12_wrongElement_0 : decode cX12_wrongElement 0 = .ok (.aload_n 0, 1) := by decide +kernel
theorem dX12_wrongElement_1 : decode cX12_wrongElement 1 = .ok (.iload_n 1, 1) := by decide +kernel
theorem dX12_wrongElement_2 : decode cX12_wrongElement 2 = .ok (.invokevirtual 218, 3) := by decide +kernel
theorem dX12_wrongElement_5 : decode cX12_wrongElement 5 = .ok (.istore_n 3, 1) := by decide +kernel
theorem dX12_wrongElement_6 : decode cX12_wrongElement 6 = .ok (.iload_n 3, 1) := by decide +kernel
theorem dX12_wrongElement_7 : decode cX12_wrongElement 7 = .ok (.ifCond .ne 23, 3) := by decide +kernel
theorem dX12_wrongElement_10 : decode cX12_wrongElement 10 = .ok (.iload_n 2, 1) := by decide +kernel
theorem dX12_wrongElement_11 : decode cX12_wrongElement 11 = .ok (.iconst 0, 1) := by decide +kernel
theorem dX12_wrongElement_12 : decode cX12_wrongElement 12 = .ok (.aload_n 0, 1) := by decide +kernel
theorem dX12_wrongElement_13 : decode cX12_wrongElement 13 = .ok (.getfield 66, 3) := by decide +kernel
theorem dX12_wrongElement_16 : decode cX12_wrongElement 16 = .ok (.iload_n 1, 1) := by decide +kernel
theorem dX12_wrongElement_17 : decode cX12_wrongElement 17 = .ok (.iaload, 1) := by decide +kernel
theorem dX12_wrongElement_18 : decode cX12_wrongElement 18 = .ok (.iconst 1, 1) := by decide +kernel
theorem dX12_wrongElement_19 : decode cX12_wrongElement 19 = .ok (.isub, 1) := by decide +kernel
theorem dX12_wrongElement_20 : decode cX12_wrongElement 20 = .ok (.invokestatic 115, 3) := by decide +kernel
theorem dX12_wrongElement_23 : decode cX12_wrongElement 23 = .ok (.ifCond .ne 7, 3) := by decide +kernel
theorem dX12_wrongElement_26 : decode cX12_wrongElement 26 = .ok (.iconst 2, 1) := by decide +kernel
theorem dX12_wrongElement_27 : decode cX12_wrongElement 27 = .ok (.goto 4, 3) := by decide +kernel
theorem dX12_wrongElement_30 : decode cX12_wrongElement 30 = .ok (.iload_n 3, 1) := by decide +kernel
theorem dX12_wrongElement_31 : decode cX12_wrongElement 31 = .ok (.ireturn, 1) := by decide +kernel
theorem dX12_tag_0 : decode cX12_tag 0 = .ok (.aload_n 0, 1) := by decide +kernel
theorem dX12_tag_1 : decode cX12_tag 1 = .ok (.aload_n 0, 1) := by decide +kernel
theorem dX12_tag_2 : decode cX12_tag 2 = .ok (.iload_n 1, 1) := by decide +kernel
theorem dX12_tag_3 : decode cX12_tag 3 = .ok (.invokevirtual 218, 3) := by decide +kernel
theorem dX12_tag_6 : decode cX12_tag 6 = .ok (.invokevirtual 126, 3) := by decide +kernel
theorem dX12_tag_9 : decode cX12_tag 9 = .ok (.ifCond .eq 12, 3) := by decide +kernel
theorem dX12_tag_12 : decode cX12_tag 12 = .ok (.aload_n 0, 1) := by decide +kernel
theorem dX12_tag_13 : decode cX12_tag 13 = .ok (.getfield 63, 3) := by decide +kernel
theorem dX12_tag_16 : decode cX12_tag 16 = .ok (.iload_n 1, 1) := by decide +kernel
theorem dX12_tag_17 : decode cX12_tag 17 = .ok (.caload, 1) := by decide +kernel
theorem dX12_tag_18 : decode cX12_tag 18 = .ok (.goto 4, 3) := by decide +kernel
theorem dX12_tag_21 : decode cX12_tag 21 = .ok (.iconst 0, 1) := by decide +kernel
theorem dX12_tag_22 : decode cX12_tag 22 = .ok (.ireturn, 1) := by decide +kernel
theorem dX12_elements_0 : decode cX12_elements 0 = .ok (.aload_n 0, 1) := by decide +kernel
theorem dX12_elements_1 : decode cX12_elements 1 = .ok (.aload_n 0, 1) := by decide +kernel
theorem dX12_elements_2 : decode cX12_elements 2 = .ok (.iload_n 1, 1) := by decide +kernel
theorem dX12_elements_3 : decode cX12_elements 3 = .ok (.invokevirtual 218, 3) := by decide +kernel
theorem dX12_elements_6 : decode cX12_elements 6 = .ok (.invokevirtual 126, 3) := by decide +kernel
theorem dX12_elements_9 : decode cX12_elements 9 = .ok (.ifCond .eq 12, 3) := by decide +kernel
theorem dX12_elements_12 : decode cX12_elements 12 = .ok (.aload_n 0, 1) := by decide +kernel
theorem dX12_elements_13 : decode cX12_elements 13 = .ok (.getfield 66, 3) := by decide +kernel
theorem dX12_elements_16 : decode cX12_elements 16 = .ok (.iload_n 1, 1) := by decide +kernel
theorem dX12_elements_17 : decode cX12_elements 17 = .ok (.iaload, 1) := by decide +kernel
theorem dX12_elements_18 : decode cX12_elements 18 = .ok (.goto 4, 3) := by decide +kernel
theorem dX12_elements_21 : decode cX12_elements 21 = .ok (.iconst 0, 1) := by decide +kernel
theorem dX12_elements_22 : decode cX12_elements 22 = .ok (.ireturn, 1) := by decide +kernel
theorem dX12_contentLength_0 : decode cX12_contentLength 0 = .ok (.aload_n 0, 1) := by decide +kernel
theorem dX12_contentLength_1 : decode cX12_contentLength 1 = .ok (.aload_n 0, 1) := by decide +kernel
theorem dX12_contentLength_2 : decode cX12_contentLength 2 = .ok (.iload_n 1, 1) := by decide +kernel
theorem dX12_contentLength_3 : decode cX12_contentLength 3 = .ok (.iload_n 2, 1) := by decide +kernel
theorem dX12_contentLength_4 : decode cX12_contentLength 4 = .ok (.invokevirtual 221, 3) := by decide +kernel
theorem dX12_contentLength_7 : decode cX12_contentLength 7 = .ok (.invokevirtual 126, 3) := by decide +kernel
theorem dX12_contentLength_10 : decode cX12_contentLength 10 = .ok (.ifCond .eq 16, 3) := by decide +kernel
theorem dX12_contentLength_13 : decode cX12_contentLength 13 = .ok (.aload_n 0, 1) := by decide +kernel
theorem dX12_contentLength_14 : decode cX12_contentLength 14 = .ok (.getfield 69, 3) := by decide +kernel
theorem dX12_contentLength_17 : decode cX12_contentLength 17 = .ok (.iconst 5, 1) := by decide +kernel
theorem dX12_contentLength_18 : decode cX12_contentLength 18 = .ok (.iload_n 1, 1) := by decide +kernel
theorem dX12_contentLength_19 : decode cX12_contentLength 19 = .ok (.imul, 1) := by decide +kernel
theorem dX12_contentLength_20 : decode cX12_contentLength 20 = .ok (.iload_n 2, 1) := by decide +kernel
theorem dX12_contentLength_21 : decode cX12_contentLength 21 = .ok (.iadd, 1) := by decide +kernel
theorem dX12_contentLength_22 : decode cX12_contentLength 22 = .ok (.iaload, 1) := by decide +kernel
theorem dX12_contentLength_23 : decode cX12_contentLength 23 = .ok (.goto 4, 3) := by decide +kernel
theorem dX12_contentLength_26 : decode cX12_contentLength 26 = .ok (.iconst 0, 1) := by decide +kernel
theorem dX12_contentLength_27 : decode cX12_contentLength 27 = .ok (.ireturn, 1) := by decide +kernel
theorem dX12_content_0 : decode cX12_content 0 = .ok (.aload_n 0, 1) := by decide +kernel
theorem dX12_content_1 : decode cX12_content 1 = .ok (.iload_n 1, 1) := by decide +kernel
theorem dX12_content_2 : decode cX12_content 2 = .ok (.iload_n 2, 1) := by decide +kernel
theorem dX12_content_3 : decode cX12_content 3 = .ok (.invokevirtual 221, 3) := by decide +kernel
theorem dX12_content_6 : decode cX12_content 6 = .ok (.istore 4, 2) := by decide +kernel
theorem dX12_content_8 : decode cX12_content 8 = .ok (.iload 4, 2) := by decide +kernel
theorem dX12_content_10 : decode cX12_content 10 = .ok (.ifCond .ne 26, 3) := by decide +kernel
theorem dX12_content_13 : decode cX12_content 13 = .ok (.iload_n 3, 1) := by decide +kernel
theorem dX12_content_14 : decode cX12_content 14 = .ok (.iconst 0, 1) := by decide +kernel
theorem dX12_content_15 : decode cX12_content 15 = .ok (.aload_n 0, 1) := by decide +kernel
theorem dX12_content_16 : decode cX12_content 16 = .ok (.getfield 69, 3) := by decide +kernel
theorem dX12_content_19 : decode cX12_content 19 = .ok (.iconst 5, 1) := by decide +kernel
theorem dX12_content_20 : decode cX12_content 20 = .ok (.iload_n 1, 1) := by decide +kernel
theorem dX12_content_21 : decode cX12_content 21 = .ok (.imul, 1) := by decide +kernel
theorem dX12_content_22 : decode cX12_content 22 = .ok (.iload_n 2, 1) := by decide +kernel
theorem dX12_content_23 : decode cX12_content 23 = .ok (.iadd, 1) := by decide +kernel
theorem dX12_content_24 : decode cX12_content 24 = .ok (.iaload, 1) := by decide +kernel
theorem dX12_content_25 : decode cX12_content 25 = .ok (.iconst 1, 1) := by decide +kernel
theorem dX12_content_26 : decode cX12_content 26 = .ok (.isub, 1) := by decide +kernel
theorem dX12_content_27 : decode cX12_content 27 = .ok (.invokestatic 115, 3) := by decide +kernel
theorem dX12_content_30 : decode cX12_content 30 = .ok (.ifCond .ne 6, 3) := by decide +kernel
theorem dX12_content_33 : decode cX12_content 33 = .ok (.iconst 2, 1) := by decide +kernel
theorem dX12_content_34 : decode cX12_content 34 = .ok (.istore 4, 2) := by decide +kernel
theorem dX12_content_36 : decode cX12_content 36 = .ok (.aload_n 0, 1) := by decide +kernel
theorem dX12_content_37 : decode cX12_content 37 = .ok (.iload 4, 2) := by decide +kernel
theorem dX12_content_39 : decode cX12_content 39 = .ok (.invokevirtual 126, 3) := by decide +kernel
theorem dX12_content_42 : decode cX12_content 42 = .ok (.ifCond .eq 21, 3) := by decide +kernel
theorem dX12_content_45 : decode cX12_content 45 = .ok (.aload_n 0, 1) := by decide +kernel
theorem dX12_content_46 : decode cX12_content 46 = .ok (.getfield 72, 3) := by decide +kernel
theorem dX12_content_49 : decode cX12_content 49 = .ok (.bipush 8, 2) := by decide +kernel
theorem dX12_content_51 : decode cX12_content 51 = .ok (.iconst 5, 1) := by decide +kernel
theorem dX12_content_52 : decode cX12_content 52 = .ok (.iload_n 1, 1) := by decide +kernel
theorem dX12_content_53 : decode cX12_content 53 = .ok (.imul, 1) := by decide +kernel
theorem dX12_content_54 : decode cX12_content 54 = .ok (.iload_n 2, 1) := by decide +kernel
theorem dX12_content_55 : decode cX12_content 55 = .ok (.iadd, 1) := by decide +kernel
theorem dX12_content_56 : decode cX12_content 56 = .ok (.imul, 1) := by decide +kernel
theorem dX12_content_57 : decode cX12_content 57 = .ok (.iload_n 3, 1) := by decide +kernel
theorem dX12_content_58 : decode cX12_content 58 = .ok (.iadd, 1) := by decide +kernel
theorem dX12_content_59 : decode cX12_content 59 = .ok (.caload, 1) := by decide +kernel
theorem dX12_content_60 : decode cX12_content 60 = .ok (.goto 4, 3) := by decide +kernel
theorem dX12_content_63 : decode cX12_content 63 = .ok (.iconst 0, 1) := by decide +kernel
theorem dX12_content_64 : decode cX12_content 64 = .ok (.ireturn, 1) := by decide +kernel
theorem dX12_item_0 : decode cX12_item 0 = .ok (.aload_n 0, 1) := by decide +kernel
theorem dX12_item_1 : decode cX12_item 1 = .ok (.aload_n 0, 1) := by decide +kernel
theorem dX12_item_2 : decode cX12_item 2 = .ok (.iload_n 1, 1) := by decide +kernel
theorem dX12_item_3 : decode cX12_item 3 = .ok (.invokevirtual 218, 3) := by decide +kernel
theorem dX12_item_6 : decode cX12_item 6 = .ok (.invokevirtual 126, 3) := by decide +kernel
theorem dX12_item_9 : decode cX12_item 9 = .ok (.ifCond .eq 12, 3) := by decide +kernel
theorem dX12_item_12 : decode cX12_item 12 = .ok (.aload_n 0, 1) := by decide +kernel
theorem dX12_item_13 : decode cX12_item 13 = .ok (.getfield 75, 3) := by decide +kernel
theorem dX12_item_16 : decode cX12_item 16 = .ok (.iload_n 1, 1) := by decide +kernel
theorem dX12_item_17 : decode cX12_item 17 = .ok (.iaload, 1) := by decide +kernel
theorem dX12_item_18 : decode cX12_item 18 = .ok (.goto 4, 3) := by decide +kernel
theorem dX12_item_21 : decode cX12_item 21 = .ok (.iconst 0, 1) := by decide +kernel
theorem dX12_item_22 : decode cX12_item 22 = .ok (.ireturn, 1) := by decide +kernel
theorem dX12_pass_0 : decode cX12_pass 0 = .ok (.aload_n 0, 1) := by decide +kernel
theorem dX12_pass_1 : decode cX12_pass 1 = .ok (.aload_n 0, 1) := by decide +kernel
theorem dX12_pass_2 : decode cX12_pass 2 = .ok (.iload_n 1, 1) := by decide +kernel
theorem dX12_pass_3 : decode cX12_pass 3 = .ok (.invokevirtual 218, 3) := by decide +kernel
theorem dX12_pass_6 : decode cX12_pass 6 = .ok (.invokevirtual 126, 3) := by decide +kernel
theorem dX12_pass_9 : decode cX12_pass 9 = .ok (.ifCond .eq 12, 3) := by decide +kernel
theorem dX12_pass_12 : decode cX12_pass 12 = .ok (.aload_n 0, 1) := by decide +kernel
theorem dX12_pass_13 : decode cX12_pass 13 = .ok (.getfield 78, 3) := by decide +kernel
theorem dX12_pass_16 : decode cX12_pass 16 = .ok (.iload_n 1, 1) := by decide +kernel
theorem dX12_pass_17 : decode cX12_pass 17 = .ok (.iaload, 1) := by decide +kernel
theorem dX12_pass_18 : decode cX12_pass 18 = .ok (.goto 4, 3) := by decide +kernel
theorem dX12_pass_21 : decode cX12_pass 21 = .ok (.iconst 0, 1) := by decide +kernel
theorem dX12_pass_22 : decode cX12_pass 22 = .ok (.ireturn, 1) := by decide +kernel
theorem dX12_addRule_0 : decode cX12_addRule 0 = .ok (.aload_n 0, 1) := by decide +kernel
theorem dX12_addRule_1 : decode cX12_addRule 1 = .ok (.iload_n 1, 1) := by decide +kernel
theorem dX12_addRule_2 : decode cX12_addRule 2 = .ok (.iconst 0, 1) := by decide +kernel
theorem dX12_addRule_3 : decode cX12_addRule 3 = .ok (.aload_n 0, 1) := by decide +kernel
theorem dX12_addRule_4 : decode cX12_addRule 4 = .ok (.getfield 123, 3) := by decide +kernel
theorem dX12_addRule_7 : decode cX12_addRule 7 = .ok (.iconst 1, 1) := by decide +kernel
theorem dX12_addRule_8 : decode cX12_addRule 8 = .ok (.isub, 1) := by decide +kernel
theorem dX12_addRule_9 : decode cX12_addRule 9 = .ok (.invokestatic 115, 3) := by decide +kernel
theorem dX12_addRule_12 : decode cX12_addRule 12 = .ok (.ifCond .ne 7, 3) := by decide +kernel
theorem dX12_addRule_15 : decode cX12_addRule 15 = .ok (.iconst 1, 1) := by decide +kernel
theorem dX12_addRule_16 : decode cX12_addRule 16 = .ok (.goto 28, 3) := by decide +kernel
theorem dX12_addRule_19 : decode cX12_addRule 19 = .ok (.iload_n 2, 1) := by decide +kernel
theorem dX12_addRule_20 : decode cX12_addRule 20 = .ok (.invokestatic 119, 3) := by decide +kernel
theorem dX12_addRule_23 : decode cX12_addRule 23 = .ok (.ifCond .ne 7, 3) := by decide +kernel
theorem dX12_addRule_26 : decode cX12_addRule 26 = .ok (.iconst 2, 1) := by decide +kernel
theorem dX12_addRule_27 : decode cX12_addRule 27 = .ok (.goto 17, 3) := by decide +kernel
theorem dX12_addRule_30 : decode cX12_addRule 30 = .ok (.aload_n 0, 1) := by decide +kernel
theorem dX12_addRule_31 : decode cX12_addRule 31 = .ok (.getfield 137, 3) := by decide +kernel
theorem dX12_addRule_34 : decode cX12_addRule 34 = .ok (.bipush 10, 2) := by decide +kernel
theorem dX12_addRule_36 : decode cX12_addRule 36 = .ok (.if_icmp .ne 7, 3) := by decide +kernel
theorem dX12_addRule_39 : decode cX12_addRule 39 = .ok (.iconst 3, 1) := by decide +kernel
theorem dX12_addRule_40 : decode cX12_addRule 40 = .ok (.goto 4, 3) := by decide +kernel
theorem dX12_addRule_43 : decode cX12_addRule 43 = .ok (.iconst 0, 1) := by decide +kernel
theorem dX12_addRule_44 : decode cX12_addRule 44 = .ok (.invokevirtual 126, 3) := by decide +kernel
theorem dX12_addRule_47 : decode cX12_addRule 47 = .ok (.ifCond .ne 5, 3) := by decide +kernel
theorem dX12_addRule_50 : decode cX12_addRule 50 = .ok (.iconst 0, 1) := by decide +kernel
theorem dX12_addRule_51 : decode cX12_addRule 51 = .ok (.ireturn, 1) := by decide +kernel
theorem dX12_addRule_52 : decode cX12_addRule 52 = .ok (.aload_n 0, 1) := by decide +kernel
theorem dX12_addRule_53 : decode cX12_addRule 53 = .ok (.getfield 87, 3) := by decide +kernel
theorem dX12_addRule_56 : decode cX12_addRule 56 = .ok (.aload_n 0, 1) := by decide +kernel
theorem dX12_addRule_57 : decode cX12_addRule 57 = .ok (.getfield 137, 3) := by decide +kernel
theorem dX12_addRule_60 : decode cX12_addRule 60 = .ok (.iload_n 1, 1) := by decide +kernel
theorem dX12_addRule_61 : decode cX12_addRule 61 = .ok (.iastore, 1) := by decide +kernel
theorem dX12_addRule_62 : decode cX12_addRule 62 = .ok (.aload_n 0, 1) := by decide +kernel
theorem dX12_addRule_63 : decode cX12_addRule 63 = .ok (.getfield 90, 3) := by decide +kernel
theorem dX12_addRule_66 : decode cX12_addRule 66 = .ok (.aload_n 0, 1) := by decide +kernel
theorem dX12_addRule_67 : decode cX12_addRule 67 = .ok (.getfield 137, 3) := by decide +kernel
theorem dX12_addRule_70 : decode cX12_addRule 70 = .ok (.iload_n 2, 1) := by decide +kernel
theorem dX12_addRule_71 : decode cX12_addRule 71 = .ok (.castore, 1) := by decide +kernel
theorem dX12_addRule_72 : decode cX12_addRule 72 = .ok (.aload_n 0, 1) := by decide +kernel
theorem dX12_addRule_73 : decode cX12_addRule 73 = .ok (.getfield 93, 3) := by decide +kernel
theorem dX12_addRule_76 : decode cX12_addRule 76 = .ok (.aload_n 0, 1) := by decide +kernel
theorem dX12_addRule_77 : decode cX12_addRule 77 = .ok (.getfield 137, 3) := by decide +kernel
theorem dX12_addRule_80 : decode cX12_addRule 80 = .ok (.iconst 0, 1) := by decide +kernel
theorem dX12_addRule_81 : decode cX12_addRule 81 = .ok (.iastore, 1) := by decide +kernel
theorem dX12_addRule_82 : decode cX12_addRule 82 = .ok (.aload_n 0, 1) := by decide +kernel
theorem dX12_addRule_83 : decode cX12_addRule 83 = .ok (.getfield 99, 3) := by decide +kernel
theorem dX12_addRule_86 : decode cX12_addRule 86 = .ok (.aload_n 0, 1) := by decide +kernel
theorem dX12_addRule_87 : decode cX12_addRule 87 = .ok (.getfield 137, 3) := by decide +kernel
theorem dX12_addRule_90 : decode cX12_addRule 90 = .ok (.iconst (-1), 1) := by decide +kernel
theorem dX12_addRule_91 : decode cX12_addRule 91 = .ok (.iastore, 1) := by decide +kernel
theorem dX12_addRule_92 : decode cX12_addRule 92 = .ok (.aload_n 0, 1) := by decide +kernel
theorem dX12_addRule_93 : decode cX12_addRule 93 = .ok (.dup, 1) := by decide +kernel
theorem dX12_addRule_94 : decode cX12_addRule 94 = .ok (.getfield 137, 3) := by decide +kernel
theorem dX12_addRule_97 : decode cX12_addRule 97 = .ok (.iconst 1, 1) := by decide +kernel
theorem dX12_addRule_98 : decode cX12_addRule 98 = .ok (.iadd, 1) := by decide +kernel
theorem dX12_addRule_99 : decode cX12_addRule 99 = .ok (.putfield 137, 3) := by decide +kernel
theorem dX12_addRule_102 : decode cX12_addRule 102 = .ok (.aload_n 0, 1) := by decide +kernel
theorem dX12_addRule_103 : decode cX12_addRule 103 = .ok (.getfield 137, 3) := by decide +kernel
theorem dX12_addRule_106 : decode cX12_addRule 106 = .ok (.iconst 1, 1) := by decide +kernel
theorem dX12_addRule_107 : decode cX12_addRule 107 = .ok (.isub, 1) := by decide +kernel
theorem dX12_addRule_108 : decode cX12_addRule 108 = .ok (.ireturn, 1) := by decide +kernel
theorem dX12_addField_0 : decode cX12_addField 0 = .ok (.aload_n 0, 1) := by decide +kernel
theorem dX12_addField_1 : decode cX12_addField 1 = .ok (.iload_n 1, 1) := by decide +kernel
theorem dX12_addField_2 : decode cX12_addField 2 = .ok (.iconst 0, 1) := by decide +kernel
theorem dX12_addField_3 : decode cX12_addField 3 = .ok (.aload_n 0, 1) := by decide +kernel
theorem dX12_addField_4 : decode cX12_addField 4 = .ok (.getfield 137, 3) := by decide +kernel
theorem dX12_addField_7 : decode cX12_addField 7 = .ok (.iconst 1, 1) := by decide +kernel
theorem dX12_addField_8 : decode cX12_addField 8 = .ok (.isub, 1) := by decide +kernel
theorem dX12_addField_9 : decode cX12_addField 9 = .ok (.invokestatic 115, 3) := by decide +kernel
theorem dX12_addField_12 : decode cX12_addField 12 = .ok (.ifCond .ne 7, 3) := by decide +kernel
theorem dX12_addField_15 : decode cX12_addField 15 = .ok (.iconst 1, 1) := by decide +kernel
theorem dX12_addField_16 : decode cX12_addField 16 = .ok (.goto 31, 3) := by decide +kernel
theorem dX12_addField_19 : decode cX12_addField 19 = .ok (.iload_n 2, 1) := by decide +kernel
theorem dX12_addField_20 : decode cX12_addField 20 = .ok (.iconst 0, 1) := by decide +kernel
theorem dX12_addField_21 : decode cX12_addField 21 = .ok (.iconst 4, 1) := by decide +kernel
theorem dX12_addField_22 : decode cX12_addField 22 = .ok (.invokestatic 115, 3) := by decide +kernel
theorem dX12_addField_25 : decode cX12_addField 25 = .ok (.ifCond .ne 7, 3) := by decide +kernel
theorem dX12_addField_28 : decode cX12_addField 28 = .ok (.iconst 2, 1) := by decide +kernel
theorem dX12_addField_29 : decode cX12_addField 29 = .ok (.goto 18, 3) := by decide +kernel
theorem dX12_addField_32 : decode cX12_addField 32 = .ok (.aload_n 0, 1) := by decide +kernel
theorem dX12_addField_33 : decode cX12_addField 33 = .ok (.getfield 93, 3) := by decide +kernel
theorem dX12_addField_36 : decode cX12_addField 36 = .ok (.iload_n 1, 1) := by decide +kernel
theorem dX12_addField_37 : decode cX12_addField 37 = .ok (.iaload, 1) := by decide +kernel
theorem dX12_addField_38 : decode cX12_addField 38 = .ok (.iconst 5, 1) := by decide +kernel
theorem dX12_addField_39 : decode cX12_addField 39 = .ok (.if_icmp .ne 7, 3) := by decide +kernel
theorem dX12_addField_42 : decode cX12_addField 42 = .ok (.iconst 3, 1) := by decide +kernel
theorem dX12_addField_43 : decode cX12_addField 43 = .ok (.goto 4, 3) := by decide +kernel
theorem dX12_addField_46 : decode cX12_addField 46 = .ok (.iconst 0, 1) := by decide +kernel
theorem dX12_addField_47 : decode cX12_addField 47 = .ok (.invokevirtual 126, 3) := by decide +kernel
theorem dX12_addField_50 : decode cX12_addField 50 = .ok (.ifCond .ne 5, 3) := by decide +kernel
theorem dX12_addField_53 : decode cX12_addField 53 = .ok (.iconst 0, 1) := by decide +kernel
theorem dX12_addField_54 : decode cX12_addField 54 = .ok (.ireturn, 1) := by decide +kernel
theorem dX12_addField_55 : decode cX12_addField 55 = .ok (.aload_n 0, 1) := by decide +kernel
theorem dX12_addField_56 : decode cX12_addField 56 = .ok (.getfield 96, 3) := by decide +kernel
theorem dX12_addField_59 : decode cX12_addField 59 = .ok (.iconst 5, 1) := by decide +kernel
theorem dX12_addField_60 : decode cX12_addField 60 = .ok (.iload_n 1, 1) := by decide +kernel
theorem dX12_addField_61 : decode cX12_addField 61 = .ok (.imul, 1) := by decide +kernel
theorem dX12_addField_62 : decode cX12_addField 62 = .ok (.aload_n 0, 1) := by decide +kernel
theorem dX12_addField_63 : decode cX12_addField 63 = .ok (.getfield 93, 3) := by decide +kernel
theorem dX12_addField_66 : decode cX12_addField 66 = .ok (.iload_n 1, 1) := by decide +kernel
theorem dX12_addField_67 : decode cX12_addField 67 = .ok (.iaload, 1) := by decide +kernel
theorem dX12_addField_68 : decode cX12_addField 68 = .ok (.iadd, 1) := by decide +kernel
theorem dX12_addField_69 : decode cX12_addField 69 = .ok (.iload_n 2, 1) := by decide +kernel
theorem dX12_addField_70 : decode cX12_addField 70 = .ok (.iastore, 1) := by decide +kernel
theorem dX12_addField_71 : decode cX12_addField 71 = .ok (.aload_n 0, 1) := by decide +kernel
theorem dX12_addField_72 : decode cX12_addField 72 = .ok (.getfield 93, 3) := by decide +kernel
theorem dX12_addField_75 : decode cX12_addField 75 = .ok (.iload_n 1, 1) := by decide +kernel
theorem dX12_addField_76 : decode cX12_addField 76 = .ok (.dup2, 1) := by decide +kernel
theorem dX12_addField_77 : decode cX12_addField 77 = .ok (.iaload, 1) := by decide +kernel
theorem dX12_addField_78 : decode cX12_addField 78 = .ok (.iconst 1, 1) := by decide +kernel
theorem dX12_addField_79 : decode cX12_addField 79 = .ok (.iadd, 1) := by decide +kernel
theorem dX12_addField_80 : decode cX12_addField 80 = .ok (.iastore, 1) := by decide +kernel
theorem dX12_addField_81 : decode cX12_addField 81 = .ok (.aload_n 0, 1) := by decide +kernel
theorem dX12_addField_82 : decode cX12_addField 82 = .ok (.getfield 93, 3) := by decide +kernel
theorem dX12_addField_85 : decode cX12_addField 85 = .ok (.iload_n 1, 1) := by decide +kernel
theorem dX12_addField_86 : decode cX12_addField 86 = .ok (.iaload, 1) := by decide +kernel
theorem dX12_addField_87 : decode cX12_addField 87 = .ok (.ireturn, 1) := by decide +kernel
theorem dX12_setCondition_0 : decode cX12_setCondition 0 = .ok (.iload_n 2, 1) := by decide +kernel
theorem dX12_setCondition_1 : decode cX12_setCondition 1 = .ok (.iconst 0, 1) := by decide +kernel
theorem dX12_setCondition_2 : decode cX12_setCondition 2 = .ok (.iconst 4, 1) := by decide +kernel
theorem dX12_setCondition_3 : decode cX12_setCondition 3 = .ok (.invokestatic 115, 3) := by decide +kernel
theorem dX12_setCondition_6 : decode cX12_setCondition 6 = .ok (.ifCond .eq 18, 3) := by decide +kernel
theorem dX12_setCondition_9 : decode cX12_setCondition 9 = .ok (.iload_n 3, 1) := by decide +kernel
theorem dX12_setCondition_10 : decode cX12_setCondition 10 = .ok (.bipush 32, 2) := by decide +kernel
theorem dX12_setCondition_12 : decode cX12_setCondition 12 = .ok (.bipush 126, 2) := by decide +kernel
theorem dX12_setCondition_14 : decode cX12_setCondition 14 = .ok (.invokestatic 115, 3) := by decide +kernel
theorem dX12_setCondition_17 : decode cX12_setCondition 17 = .ok (.ifCond .eq 7, 3) := by decide +kernel
theorem dX12_setCondition_20 : decode cX12_setCondition 20 = .ok (.iconst 1, 1) := by decide +kernel
theorem dX12_setCondition_21 : decode cX12_setCondition 21 = .ok (.goto 4, 3) := by decide +kernel
theorem dX12_setCondition_24 : decode cX12_setCondition 24 = .ok (.iconst 0, 1) := by decide +kernel
theorem dX12_setCondition_25 : decode cX12_setCondition 25 = .ok (.istore 4, 2) := by decide +kernel
theorem dX12_setCondition_27 : decode cX12_setCondition 27 = .ok (.aload_n 0, 1) := by decide +kernel
theorem dX12_setCondition_28 : decode cX12_setCondition 28 = .ok (.iload_n 1, 1) := by decide +kernel
theorem dX12_setCondition_29 : decode cX12_setCondition 29 = .ok (.iconst 0, 1) := by decide +kernel
theorem dX12_setCondition_30 : decode cX12_setCondition 30 = .ok (.aload_n 0, 1) := by decide +kernel
theorem dX12_setCondition_31 : decode cX12_setCondition 31 = .ok (.getfield 137, 3) := by decide +kernel
theorem dX12_setCondition_34 : decode cX12_setCondition 34 = .ok (.iconst 1, 1) := by decide +kernel
theorem dX12_setCondition_35 : decode cX12_setCondition 35 = .ok (.isub, 1) := by decide +kernel
theorem dX12_setCondition_36 : decode cX12_setCondition 36 = .ok (.invokestatic 115, 3) := by decide +kernel
theorem dX12_setCondition_39 : decode cX12_setCondition 39 = .ok (.ifCond .ne 7, 3) := by decide +kernel
theorem dX12_setCondition_42 : decode cX12_setCondition 42 = .ok (.iconst 1, 1) := by decide +kernel
theorem dX12_setCondition_43 : decode cX12_setCondition 43 = .ok (.goto 13, 3) := by decide +kernel
theorem dX12_setCondition_46 : decode cX12_setCondition 46 = .ok (.iload 4, 2) := by decide +kernel
theorem dX12_setCondition_48 : decode cX12_setCondition 48 = .ok (.ifCond .ne 7, 3) := by decide +kernel
theorem dX12_setCondition_51 : decode cX12_setCondition 51 = .ok (.iconst 2, 1) := by decide +kernel
theorem dX12_setCondition_52 : decode cX12_setCondition 52 = .ok (.goto 4, 3) := by decide +kernel
theorem dX12_setCondition_55 : decode cX12_setCondition 55 = .ok (.iconst 0, 1) := by decide +kernel
theorem dX12_setCondition_56 : decode cX12_setCondition 56 = .ok (.invokevirtual 126, 3) := by decide +kernel
theorem dX12_setCondition_59 : decode cX12_setCondition 59 = .ok (.ifCond .eq 17, 3) := by decide +kernel
theorem dX12_setCondition_62 : decode cX12_setCondition 62 = .ok (.aload_n 0, 1) := by decide +kernel
theorem dX12_setCondition_63 : decode cX12_setCondition 63 = .ok (.getfield 99, 3) := by decide +kernel
theorem dX12_setCondition_66 : decode cX12_setCondition 66 = .ok (.iload_n 1, 1) := by decide +kernel
theorem dX12_setCondition_67 : decode cX12_setCondition 67 = .ok (.iload_n 2, 1) := by decide +kernel
theorem dX12_setCondition_68 : decode cX12_setCondition 68 = .ok (.iastore, 1) := by decide +kernel
theorem dX12_setCondition_69 : decode cX12_setCondition 69 = .ok (.aload_n 0, 1) := by decide +kernel
theorem dX12_setCondition_70 : decode cX12_setCondition 70 = .ok (.getfield 102, 3) := by decide +kernel
theorem dX12_setCondition_73 : decode cX12_setCondition 73 = .ok (.iload_n 1, 1) := by decide +kernel
theorem dX12_setCondition_74 : decode cX12_setCondition 74 = .ok (.iload_n 3, 1) := by decide +kernel
theorem dX12_setCondition_75 : decode cX12_setCondition 75 = .ok (.castore, 1) := by decide +kernel
theorem dX12_setCondition_76 : decode cX12_setCondition 76 = .ok (.return_, 1) := by decide +kernel
theorem dX12_isWriting_0 : decode cX12_isWriting 0 = .ok (.aload_n 0, 1) := by decide +kernel
theorem dX12_isWriting_1 : decode cX12_isWriting 1 = .ok (.getfield 99, 3) := by decide +kernel
theorem dX12_isWriting_4 : decode cX12_isWriting 4 = .ok (.iload_n 1, 1) := by decide +kernel
theorem dX12_isWriting_5 : decode cX12_isWriting 5 = .ok (.iaload, 1) := by decide +kernel
theorem dX12_isWriting_6 : decode cX12_isWriting 6 = .ok (.istore_n 3, 1) := by decide +kernel
theorem dX12_isWriting_7 : decode cX12_isWriting 7 = .ok (.aload_n 0, 1) := by decide +kernel
theorem dX12_isWriting_8 : decode cX12_isWriting 8 = .ok (.getfield 87, 3) := by decide +kernel
theorem dX12_isWriting_11 : decode cX12_isWriting 11 = .ok (.iload_n 1, 1) := by decide +kernel
theorem dX12_isWriting_12 : decode cX12_isWriting 12 = .ok (.iaload, 1) := by decide +kernel
theorem dX12_isWriting_13 : decode cX12_isWriting 13 = .ok (.aload_n 0, 1) := by decide +kernel
theorem dX12_isWriting_14 : decode cX12_isWriting 14 = .ok (.getfield 75, 3) := by decide +kernel
theorem dX12_isWriting_17 : decode cX12_isWriting 17 = .ok (.iload_n 2, 1) := by decide +kernel
theorem dX12_isWriting_18 : decode cX12_isWriting 18 = .ok (.iaload, 1) := by decide +kernel
theorem dX12_isWriting_19 : decode cX12_isWriting 19 = .ok (.if_icmp .ne 7, 3) := by decide +kernel
theorem dX12_isWriting_22 : decode cX12_isWriting 22 = .ok (.iconst 1, 1) := by decide +kernel
theorem dX12_isWriting_23 : decode cX12_isWriting 23 = .ok (.goto 4, 3) := by decide +kernel
theorem dX12_isWriting_26 : decode cX12_isWriting 26 = .ok (.iconst 0, 1) := by decide +kernel
theorem dX12_isWriting_27 : decode cX12_isWriting 27 = .ok (.istore 4, 2) := by decide +kernel
theorem dX12_isWriting_29 : decode cX12_isWriting 29 = .ok (.iload 4, 2) := by decide +kernel
theorem dX12_isWriting_31 : decode cX12_isWriting 31 = .ok (.ifCond .eq 61, 3) := by decide +kernel
theorem dX12_isWriting_34 : decode cX12_isWriting 34 = .ok (.iload_n 3, 1) := by decide +kernel
theorem dX12_isWriting_35 : decode cX12_isWriting 35 = .ok (.iconst (-1), 1) := by decide +kernel
theorem dX12_isWriting_36 : decode cX12_isWriting 36 = .ok (.if_icmp .eq 56, 3) := by decide +kernel
theorem dX12_isWriting_39 : decode cX12_isWriting 39 = .ok (.iconst 5, 1) := by decide +kernel
theorem dX12_isWriting_40 : decode cX12_isWriting 40 = .ok (.iload_n 2, 1) := by decide +kernel
theorem dX12_isWriting_41 : decode cX12_isWriting 41 = .ok (.imul, 1) := by decide +kernel
theorem dX12_isWriting_42 : decode cX12_isWriting 42 = .ok (.iload_n 3, 1) := by decide +kernel
theorem dX12_isWriting_43 : decode cX12_isWriting 43 = .ok (.iadd, 1) := by decide +kernel
theorem dX12_isWriting_44 : decode cX12_isWriting 44 = .ok (.istore 5, 2) := by decide +kernel
theorem dX12_isWriting_46 : decode cX12_isWriting 46 = .ok (.iload_n 3, 1) := by decide +kernel
theorem dX12_isWriting_47 : decode cX12_isWriting 47 = .ok (.aload_n 0, 1) := by decide +kernel
theorem dX12_isWriting_48 : decode cX12_isWriting 48 = .ok (.getfield 66, 3) := by decide +kernel
theorem dX12_isWriting_51 : decode cX12_isWriting 51 = .ok (.iload_n 2, 1) := by decide +kernel
theorem dX12_isWriting_52 : decode cX12_isWriting 52 = .ok (.iaload, 1) := by decide +kernel
theorem dX12_isWriting_53 : decode cX12_isWriting 53 = .ok (.if_icmp .ge 36, 3) := by decide +kernel
theorem dX12_isWriting_56 : decode cX12_isWriting 56 = .ok (.aload_n 0, 1) := by decide +kernel
theorem dX12_isWriting_57 : decode cX12_isWriting 57 = .ok (.getfield 69, 3) := by decide +kernel
theorem dX12_isWriting_60 : decode cX12_isWriting 60 = .ok (.iload 5, 2) := by decide +kernel
theorem dX12_isWriting_62 : decode cX12_isWriting 62 = .ok (.iaload, 1) := by decide +kernel
theorem dX12_isWriting_63 : decode cX12_isWriting 63 = .ok (.ifCond .le 26, 3) := by decide +kernel
theorem dX12_isWriting_66 : decode cX12_isWriting 66 = .ok (.aload_n 0, 1) := by decide +kernel
theorem dX12_isWriting_67 : decode cX12_isWriting 67 = .ok (.getfield 72, 3) := by decide +kernel
theorem dX12_isWriting_70 : decode cX12_isWriting 70 = .ok (.bipush 8, 2) := by decide +kernel
theorem dX12_isWriting_72 : decode cX12_isWriting 72 = .ok (.iload 5, 2) := by decide +kernel
theorem dX12_isWriting_74 : decode cX12_isWriting 74 = .ok (.imul, 1) := by decide +kernel
theorem dX12_isWriting_75 : decode cX12_isWriting 75 = .ok (.caload, 1) := by decide +kernel
theorem dX12_isWriting_76 : decode cX12_isWriting 76 = .ok (.aload_n 0, 1) := by decide +kernel
theorem dX12_isWriting_77 : decode cX12_isWriting 77 = .ok (.getfield 102, 3) := by decide +kernel
theorem dX12_isWriting_80 : decode cX12_isWriting 80 = .ok (.iload_n 1, 1) := by decide +kernel
theorem dX12_isWriting_81 : decode cX12_isWriting 81 = .ok (.caload, 1) := by decide +kernel
theorem dX12_isWriting_82 : decode cX12_isWriting 82 = .ok (.if_icmp .ne 7, 3) := by decide +kernel
theorem dX12_isWriting_85 : decode cX12_isWriting 85 = .ok (.iconst 1, 1) := by decide +kernel
theorem dX12_isWriting_86 : decode cX12_isWriting 86 = .ok (.goto 4, 3) := by decide +kernel
theorem dX12_isWriting_89 : decode cX12_isWriting 89 = .ok (.iconst 0, 1) := by decide +kernel
theorem dX12_isWriting_90 : decode cX12_isWriting 90 = .ok (.istore 4, 2) := by decide +kernel
theorem dX12_isWriting_92 : decode cX12_isWriting 92 = .ok (.iload 4, 2) := by decide +kernel
theorem dX12_isWriting_94 : decode cX12_isWriting 94 = .ok (.ireturn, 1) := by decide +kernel
theorem dX12_puts_0 : decode cX12_puts 0 = .ok (.aload_n 0, 1) := by decide +kernel
theorem dX12_puts_1 : decode cX12_puts 1 = .ok (.getfield 224, 3) := by decide +kernel
theorem dX12_puts_4 : decode cX12_puts 4 = .ok (.sipush 300, 3) := by decide +kernel
theorem dX12_puts_7 : decode cX12_puts 7 = .ok (.if_icmp .ge 13, 3) := by decide +kernel
theorem dX12_puts_10 : decode cX12_puts 10 = .ok (.aload_n 0, 1) := by decide +kernel
theorem dX12_puts_11 : decode cX12_puts 11 = .ok (.getfield 105, 3) := by decide +kernel
theorem dX12_puts_14 : decode cX12_puts 14 = .ok (.aload_n 0, 1) := by decide +kernel
theorem dX12_puts_15 : decode cX12_puts 15 = .ok (.getfield 224, 3) := by decide +kernel
theorem dX12_puts_18 : decode cX12_puts 18 = .ok (.iload_n 1, 1) := by decide +kernel
theorem dX12_puts_19 : decode cX12_puts 19 = .ok (.castore, 1) := by decide +kernel
theorem dX12_puts_20 : decode cX12_puts 20 = .ok (.aload_n 0, 1) := by decide +kernel
theorem dX12_puts_21 : decode cX12_puts 21 = .ok (.dup, 1) := by decide +kernel
theorem dX12_puts_22 : decode cX12_puts 22 = .ok (.getfield 224, 3) := by decide +kernel
theorem dX12_puts_25 : decode cX12_puts 25 = .ok (.iconst 1, 1) := by decide +kernel
theorem dX12_puts_26 : decode cX12_puts 26 = .ok (.iadd, 1) := by decide +kernel
theorem dX12_puts_27 : decode cX12_puts 27 = .ok (.putfield 224, 3) := by decide +kernel
theorem dX12_puts_30 : decode cX12_puts 30 = .ok (.return_, 1) := by decide +kernel
theorem dX12_putsNumber_0 : decode cX12_putsNumber 0 = .ok (.iconst 1, 1) := by decide +kernel
theorem dX12_putsNumber_1 : decode cX12_putsNumber 1 = .ok (.istore_n 2, 1) := by decide +kernel
theorem dX12_putsNumber_2 : decode cX12_putsNumber 2 = .ok (.iload_n 1, 1) := by decide +kernel
theorem dX12_putsNumber_3 : decode cX12_putsNumber 3 = .ok (.iload_n 2, 1) := by decide +kernel
theorem dX12_putsNumber_4 : decode cX12_putsNumber 4 = .ok (.idiv, 1) := by decide +kernel
theorem dX12_putsNumber_5 : decode cX12_putsNumber 5 = .ok (.bipush 9, 2) := by decide +kernel
theorem dX12_putsNumber_7 : decode cX12_putsNumber 7 = .ok (.if_icmp .le 11, 3) := by decide +kernel
theorem dX12_putsNumber_10 : decode cX12_putsNumber 10 = .ok (.iload_n 2, 1) := by decide +kernel
theorem dX12_putsNumber_11 : decode cX12_putsNumber 11 = .ok (.bipush 10, 2) := by decide +kernel
theorem dX12_putsNumber_13 : decode cX12_putsNumber 13 = .ok (.imul, 1) := by decide +kernel
theorem dX12_putsNumber_14 : decode cX12_putsNumber 14 = .ok (.istore_n 2, 1) := by decide +kernel
theorem dX12_putsNumber_15 : decode cX12_putsNumber 15 = .ok (.goto (-13), 3) := by decide +kernel
theorem dX12_putsNumber_18 : decode cX12_putsNumber 18 = .ok (.iload_n 2, 1) := by decide +kernel
theorem dX12_putsNumber_19 : decode cX12_putsNumber 19 = .ok (.ifCond .le 25, 3) := by decide +kernel
theorem dX12_putsNumber_22 : decode cX12_putsNumber 22 = .ok (.aload_n 0, 1) := by decide +kernel
theorem dX12_putsNumber_23 : decode cX12_putsNumber 23 = .ok (.bipush 48, 2) := by decide +kernel
theorem dX12_putsNumber_25 : decode cX12_putsNumber 25 = .ok (.iload_n 1, 1) := by decide +kernel
theorem dX12_putsNumber_26 : decode cX12_putsNumber 26 = .ok (.iload_n 2, 1) := by decide +kernel
theorem dX12_putsNumber_27 : decode cX12_putsNumber 27 = .ok (.idiv, 1) := by decide +kernel
theorem dX12_putsNumber_28 : decode cX12_putsNumber 28 = .ok (.bipush 10, 2) := by decide +kernel
theorem dX12_putsNumber_30 : decode cX12_putsNumber 30 = .ok (.irem, 1) := by decide +kernel
theorem dX12_putsNumber_31 : decode cX12_putsNumber 31 = .ok (.iadd, 1) := by decide +kernel
theorem dX12_putsNumber_32 : decode cX12_putsNumber 32 = .ok (.i2c, 1) := by decide +kernel
theorem dX12_putsNumber_33 : decode cX12_putsNumber 33 = .ok (.invokevirtual 227, 3) := by decide +kernel
theorem dX12_putsNumber_36 : decode cX12_putsNumber 36 = .ok (.iload_n 2, 1) := by decide +kernel
theorem dX12_putsNumber_37 : decode cX12_putsNumber 37 = .ok (.bipush 10, 2) := by decide +kernel
theorem dX12_putsNumber_39 : decode cX12_putsNumber 39 = .ok (.idiv, 1) := by decide +kernel
theorem dX12_putsNumber_40 : decode cX12_putsNumber 40 = .ok (.istore_n 2, 1) := by decide +kernel
theorem dX12_putsNumber_41 : decode cX12_putsNumber 41 = .ok (.goto (-23), 3) := by decide +kernel
theorem dX12_putsNumber_44 : decode cX12_putsNumber 44 = .ok (.return_, 1) := by decide +kernel
theorem dX12_putsContent_0 : decode cX12_putsContent 0 = .ok (.iconst 5, 1) := by decide +kernel
theorem dX12_putsContent_1 : decode cX12_putsContent 1 = .ok (.iload_n 1, 1) := by decide +kernel
theorem dX12_putsContent_2 : decode cX12_putsContent 2 = .ok (.imul, 1) := by decide +kernel
theorem dX12_putsContent_3 : decode cX12_putsContent 3 = .ok (.iload_n 2, 1) := by decide +kernel
theorem dX12_putsContent_4 : decode cX12_putsContent 4 = .ok (.iadd, 1) := by decide +kernel
theorem dX12_putsContent_5 : decode cX12_putsContent 5 = .ok (.istore_n 3, 1) := by decide +kernel
theorem dX12_putsContent_6 : decode cX12_putsContent 6 = .ok (.iconst 0, 1) := by decide +kernel
theorem dX12_putsContent_7 : decode cX12_putsContent 7 = .ok (.istore 4, 2) := by decide +kernel
theorem dX12_putsContent_9 : decode cX12_putsContent 9 = .ok (.iload_n 2, 1) := by decide +kernel
theorem dX12_putsContent_10 : decode cX12_putsContent 10 = .ok (.aload_n 0, 1) := by decide +kernel
theorem dX12_putsContent_11 : decode cX12_putsContent 11 = .ok (.getfield 66, 3) := by decide +kernel
theorem dX12_putsContent_14 : decode cX12_putsContent 14 = .ok (.iload_n 1, 1) := by decide +kernel
theorem dX12_putsContent_15 : decode cX12_putsContent 15 = .ok (.iaload, 1) := by decide +kernel
theorem dX12_putsContent_16 : decode cX12_putsContent 16 = .ok (.if_icmp .ge 67, 3) := by decide +kernel
theorem dX12_putsContent_19 : decode cX12_putsContent 19 = .ok (.iload 4, 2) := by decide +kernel
theorem dX12_putsContent_21 : decode cX12_putsContent 21 = .ok (.aload_n 0, 1) := by decide +kernel
theorem dX12_putsContent_22 : decode cX12_putsContent 22 = .ok (.getfield 69, 3) := by decide +kernel
theorem dX12_putsContent_25 : decode cX12_putsContent 25 = .ok (.iload_n 3, 1) := by decide +kernel
theorem dX12_putsContent_26 : decode cX12_putsContent 26 = .ok (.iaload, 1) := by decide +kernel
theorem dX12_putsContent_27 : decode cX12_putsContent 27 = .ok (.if_icmp .ge 56, 3) := by decide +kernel
theorem dX12_putsContent_30 : decode cX12_putsContent 30 = .ok (.aload_n 0, 1) := by decide +kernel
theorem dX12_putsContent_31 : decode cX12_putsContent 31 = .ok (.getfield 72, 3) := by decide +kernel
theorem dX12_putsContent_34 : decode cX12_putsContent 34 = .ok (.bipush 8, 2) := by decide +kernel
theorem dX12_putsContent_36 : decode cX12_putsContent 36 = .ok (.iload_n 3, 1) := by decide +kernel
theorem dX12_putsContent_37 : decode cX12_putsContent 37 = .ok (.imul, 1) := by decide +kernel
theorem dX12_putsContent_38 : decode cX12_putsContent 38 = .ok (.iload 4, 2) := by decide +kernel
theorem dX12_putsContent_40 : decode cX12_putsContent 40 = .ok (.iadd, 1) := by decide +kernel
theorem dX12_putsContent_41 : decode cX12_putsContent 41 = .ok (.caload, 1) := by decide +kernel
theorem dX12_putsContent_42 : decode cX12_putsContent 42 = .ok (.istore 5, 2) := by decide +kernel
theorem dX12_putsContent_44 : decode cX12_putsContent 44 = .ok (.iload 5, 2) := by decide +kernel
theorem dX12_putsContent_46 : decode cX12_putsContent 46 = .ok (.bipush 43, 2) := by decide +kernel
theorem dX12_putsContent_48 : decode cX12_putsContent 48 = .ok (.if_icmp .eq 17, 3) := by decide +kernel
theorem dX12_putsContent_51 : decode cX12_putsContent 51 = .ok (.iload 5, 2) := by decide +kernel
theorem dX12_putsContent_53 : decode cX12_putsContent 53 = .ok (.bipush 39, 2) := by decide +kernel
theorem dX12_putsContent_55 : decode cX12_putsContent 55 = .ok (.if_icmp .eq 10, 3) := by decide +kernel
theorem dX12_putsContent_58 : decode cX12_putsContent 58 = .ok (.iload 5, 2) := by decide +kernel
theorem dX12_putsContent_60 : decode cX12_putsContent 60 = .ok (.bipush 63, 2) := by decide +kernel
theorem dX12_putsContent_62 : decode cX12_putsContent 62 = .ok (.if_icmp .ne 9, 3) := by decide +kernel
theorem dX12_putsContent_65 : decode cX12_putsContent 65 = .ok (.aload_n 0, 1) := by decide +kernel
theorem dX12_putsContent_66 : decode cX12_putsContent 66 = .ok (.bipush 63, 2) := by decide +kernel
theorem dX12_putsContent_68 : decode cX12_putsContent 68 = .ok (.invokevirtual 227, 3) := by decide +kernel
theorem dX12_putsContent_71 : decode cX12_putsContent 71 = .ok (.aload_n 0, 1) := by decide +kernel
theorem dX12_putsContent_72 : decode cX12_putsContent 72 = .ok (.iload 5, 2) := by decide +kernel
theorem dX12_putsContent_74 : decode cX12_putsContent 74 = .ok (.invokevirtual 227, 3) := by decide +kernel
theorem dX12_putsContent_77 : decode cX12_putsContent 77 = .ok (.iinc 4 1, 3) := by decide +kernel
theorem dX12_putsContent_80 : decode cX12_putsContent 80 = .ok (.goto (-71), 3) := by decide +kernel
theorem dX12_putsContent_83 : decode cX12_putsContent 83 = .ok (.return_, 1) := by decide +kernel
theorem dX12_drafts_0 : decode cX12_drafts 0 = .ok (.iconst 2, 1) := by decide +kernel
theorem dX12_drafts_1 : decode cX12_drafts 1 = .ok (.istore_n 1, 1) := by decide +kernel
theorem dX12_drafts_2 : decode cX12_drafts 2 = .ok (.aload_n 0, 1) := by decide +kernel
theorem dX12_drafts_3 : decode cX12_drafts 3 = .ok (.iconst 0, 1) := by decide +kernel
theorem dX12_drafts_4 : decode cX12_drafts 4 = .ok (.putfield 224, 3) := by decide +kernel
theorem dX12_drafts_7 : decode cX12_drafts 7 = .ok (.aload_n 0, 1) := by decide +kernel
theorem dX12_drafts_8 : decode cX12_drafts 8 = .ok (.bipush 72, 2) := by decide +kernel
theorem dX12_drafts_10 : decode cX12_drafts 10 = .ok (.invokevirtual 227, 3) := by decide +kernel
theorem dX12_drafts_13 : decode cX12_drafts 13 = .ok (.aload_n 0, 1) := by decide +kernel
theorem dX12_drafts_14 : decode cX12_drafts 14 = .ok (.bipush 43, 2) := by decide +kernel
theorem dX12_drafts_16 : decode cX12_drafts 16 = .ok (.invokevirtual 227, 3) := by decide +kernel
theorem dX12_drafts_19 : decode cX12_drafts 19 = .ok (.aload_n 0, 1) := by decide +kernel
theorem dX12_drafts_20 : decode cX12_drafts 20 = .ok (.aload_n 0, 1) := by decide +kernel
theorem dX12_drafts_21 : decode cX12_drafts 21 = .ok (.getfield 231, 3) := by decide +kernel
theorem dX12_drafts_24 : decode cX12_drafts 24 = .ok (.iconst 1, 1) := by decide +kernel
theorem dX12_drafts_25 : decode cX12_drafts 25 = .ok (.iadd, 1) := by decide +kernel
theorem dX12_drafts_26 : decode cX12_drafts 26 = .ok (.invokevirtual 234, 3) := by decide +kernel
theorem dX12_drafts_29 : decode cX12_drafts 29 = .ok (.aload_n 0, 1) := by decide +kernel
theorem dX12_drafts_30 : decode cX12_drafts 30 = .ok (.bipush 39, 2) := by decide +kernel
theorem dX12_drafts_32 : decode cX12_drafts 32 = .ok (.invokevirtual 227, 3) := by decide +kernel
theorem dX12_drafts_35 : decode cX12_drafts 35 = .ok (.iconst 0, 1) := by decide +kernel
theorem dX12_drafts_36 : decode cX12_drafts 36 = .ok (.istore_n 2, 1) := by decide +kernel
theorem dX12_drafts_37 : decode cX12_drafts 37 = .ok (.iload_n 2, 1) := by decide +kernel
theorem dX12_drafts_38 : decode cX12_drafts 38 = .ok (.aload_n 0, 1) := by decide +kernel
theorem dX12_drafts_39 : decode cX12_drafts 39 = .ok (.getfield 200, 3) := by decide +kernel
theorem dX12_drafts_42 : decode cX12_drafts 42 = .ok (.if_icmp .ge 95, 3) := by decide +kernel
theorem dX12_drafts_45 : decode cX12_drafts 45 = .ok (.iconst 0, 1) := by decide +kernel
theorem dX12_drafts_46 : decode cX12_drafts 46 = .ok (.istore_n 3, 1) := by decide +kernel
theorem dX12_drafts_47 : decode cX12_drafts 47 = .ok (.iload_n 3, 1) := by decide +kernel
theorem dX12_drafts_48 : decode cX12_drafts 48 = .ok (.aload_n 0, 1) := by decide +kernel
theorem dX12_drafts_49 : decode cX12_drafts 49 = .ok (.getfield 137, 3) := by decide +kernel
theorem dX12_drafts_52 : decode cX12_drafts 52 = .ok (.if_icmp .ge 79, 3) := by decide +kernel
theorem dX12_drafts_55 : decode cX12_drafts 55 = .ok (.aload_n 0, 1) := by decide +kernel
theorem dX12_drafts_56 : decode cX12_drafts 56 = .ok (.iload_n 3, 1) := by decide +kernel
theorem dX12_drafts_57 : decode cX12_drafts 57 = .ok (.iload_n 2, 1) := by decide +kernel
theorem dX12_drafts_58 : decode cX12_drafts 58 = .ok (.invokevirtual 237, 3) := by decide +kernel
theorem dX12_drafts_61 : decode cX12_drafts 61 = .ok (.ifCond .eq 64, 3) := by decide +kernel
theorem dX12_drafts_64 : decode cX12_drafts 64 = .ok (.iinc 1 1, 3) := by decide +kernel
theorem dX12_drafts_67 : decode cX12_drafts 67 = .ok (.aload_n 0, 1) := by decide +kernel
theorem dX12_drafts_68 : decode cX12_drafts 68 = .ok (.aload_n 0, 1) := by decide +kernel
theorem dX12_drafts_69 : decode cX12_drafts 69 = .ok (.getfield 90, 3) := by decide +kernel
theorem dX12_drafts_72 : decode cX12_drafts 72 = .ok (.iload_n 3, 1) := by decide +kernel
theorem dX12_drafts_73 : decode cX12_drafts 73 = .ok (.caload, 1) := by decide +kernel
theorem dX12_drafts_74 : decode cX12_drafts 74 = .ok (.invokevirtual 227, 3) := by decide +kernel
theorem dX12_drafts_77 : decode cX12_drafts 77 = .ok (.iconst 0, 1) := by decide +kernel
theorem dX12_drafts_78 : decode cX12_drafts 78 = .ok (.istore 4, 2) := by decide +kernel
theorem dX12_drafts_80 : decode cX12_drafts 80 = .ok (.iload 4, 2) := by decide +kernel
theorem dX12_drafts_82 : decode cX12_drafts 82 = .ok (.aload_n 0, 1) := by decide +kernel
theorem dX12_drafts_83 : decode cX12_drafts 83 = .ok (.getfield 93, 3) := by decide +kernel
theorem dX12_drafts_86 : decode cX12_drafts 86 = .ok (.iload_n 3, 1) := by decide +kernel
theorem dX12_drafts_87 : decode cX12_drafts 87 = .ok (.iaload, 1) := by decide +kernel
theorem dX12_drafts_88 : decode cX12_drafts 88 = .ok (.if_icmp .ge 31, 3) := by decide +kernel
theorem dX12_drafts_91 : decode cX12_drafts 91 = .ok (.aload_n 0, 1) := by decide +kernel
theorem dX12_drafts_92 : decode cX12_drafts 92 = .ok (.bipush 43, 2) := by decide +kernel
theorem dX12_drafts_94 : decode cX12_drafts 94 = .ok (.invokevirtual 227, 3) := by decide +kernel
theorem dX12_drafts_97 : decode cX12_drafts 97 = .ok (.aload_n 0, 1) := by decide +kernel
theorem dX12_drafts_98 : decode cX12_drafts 98 = .ok (.iload_n 2, 1) := by decide +kernel
theorem dX12_drafts_99 : decode cX12_drafts 99 = .ok (.aload_n 0, 1) := by decide +kernel
theorem dX12_drafts_100 : decode cX12_drafts 100 = .ok (.getfield 96, 3) := by decide +kernel
theorem dX12_drafts_103 : decode cX12_drafts 103 = .ok (.iconst 5, 1) := by decide +kernel
theorem dX12_drafts_104 : decode cX12_drafts 104 = .ok (.iload_n 3, 1) := by decide +kernel
theorem dX12_drafts_105 : decode cX12_drafts 105 = .ok (.imul, 1) := by decide +kernel
theorem dX12_drafts_106 : decode cX12_drafts 106 = .ok (.iload 4, 2) := by decide +kernel
theorem dX12_drafts_108 : decode cX12_drafts 108 = .ok (.iadd, 1) := by decide +kernel
theorem dX12_drafts_109 : decode cX12_drafts 109 = .ok (.iaload, 1) := by decide +kernel
theorem dX12_drafts_110 : decode cX12_drafts 110 = .ok (.invokevirtual 241, 3) := by decide +kernel
theorem dX12_drafts_113 : decode cX12_drafts 113 = .ok (.iinc 4 1, 3) := by decide +kernel
theorem dX12_drafts_116 : decode cX12_drafts 116 = .ok (.goto (-36), 3) := by decide +kernel
theorem dX12_drafts_119 : decode cX12_drafts 119 = .ok (.aload_n 0, 1) := by decide +kernel
theorem dX12_drafts_120 : decode cX12_drafts 120 = .ok (.bipush 39, 2) := by decide +kernel
theorem dX12_drafts_122 : decode cX12_drafts 122 = .ok (.invokevirtual 227, 3) := by decide +kernel
theorem dX12_drafts_125 : decode cX12_drafts 125 = .ok (.iinc 3 1, 3) := by decide +kernel
theorem dX12_drafts_128 : decode cX12_drafts 128 = .ok (.goto (-81), 3) := by decide +kernel
theorem dX12_drafts_131 : decode cX12_drafts 131 = .ok (.iinc 2 1, 3) := by decide +kernel
theorem dX12_drafts_134 : decode cX12_drafts 134 = .ok (.goto (-97), 3) := by decide +kernel
theorem dX12_drafts_137 : decode cX12_drafts 137 = .ok (.aload_n 0, 1) := by decide +kernel
theorem dX12_drafts_138 : decode cX12_drafts 138 = .ok (.bipush 84, 2) := by decide +kernel
theorem dX12_drafts_140 : decode cX12_drafts 140 = .ok (.invokevirtual 227, 3) := by decide +kernel
theorem dX12_drafts_143 : decode cX12_drafts 143 = .ok (.aload_n 0, 1) := by decide +kernel
theorem dX12_drafts_144 : decode cX12_drafts 144 = .ok (.bipush 43, 2) := by decide +kernel
theorem dX12_drafts_146 : decode cX12_drafts 146 = .ok (.invokevirtual 227, 3) := by decide +kernel
theorem dX12_drafts_149 : decode cX12_drafts 149 = .ok (.aload_n 0, 1) := by decide +kernel
theorem dX12_drafts_150 : decode cX12_drafts 150 = .ok (.iload_n 1, 1) := by decide +kernel
theorem dX12_drafts_151 : decode cX12_drafts 151 = .ok (.invokevirtual 234, 3) := by decide +kernel
theorem dX12_drafts_154 : decode cX12_drafts 154 = .ok (.aload_n 0, 1) := by decide +kernel
theorem dX12_drafts_155 : decode cX12_drafts 155 = .ok (.bipush 43, 2) := by decide +kernel
theorem dX12_drafts_157 : decode cX12_drafts 157 = .ok (.invokevirtual 227, 3) := by decide +kernel
theorem dX12_drafts_160 : decode cX12_drafts 160 = .ok (.aload_n 0, 1) := by decide +kernel
theorem dX12_drafts_161 : decode cX12_drafts 161 = .ok (.aload_n 0, 1) := by decide +kernel
theorem dX12_drafts_162 : decode cX12_drafts 162 = .ok (.getfield 231, 3) := by decide +kernel
theorem dX12_drafts_165 : decode cX12_drafts 165 = .ok (.iconst 1, 1) := by decide +kernel
theorem dX12_drafts_166 : decode cX12_drafts 166 = .ok (.iadd, 1) := by decide +kernel
theorem dX12_drafts_167 : decode cX12_drafts 167 = .ok (.invokevirtual 234, 3) := by decide +kernel
theorem dX12_drafts_170 : decode cX12_drafts 170 = .ok (.aload_n 0, 1) := by decide +kernel
theorem dX12_drafts_171 : decode cX12_drafts 171 = .ok (.bipush 39, 2) := by decide +kernel
theorem dX12_drafts_173 : decode cX12_drafts 173 = .ok (.invokevirtual 227, 3) := by decide +kernel
theorem dX12_drafts_176 : decode cX12_drafts 176 = .ok (.iload_n 1, 1) := by decide +kernel
theorem dX12_drafts_177 : decode cX12_drafts 177 = .ok (.ireturn, 1) := by decide +kernel
theorem dX12_write_0 : decode cX12_write 0 = .ok (.aload_n 0, 1) := by decide +kernel
theorem dX12_write_1 : decode cX12_write 1 = .ok (.getfield 140, 3) := by decide +kernel
theorem dX12_write_4 : decode cX12_write 4 = .ok (.ifCond .eq 36, 3) := by decide +kernel
theorem dX12_write_7 : decode cX12_write 7 = .ok (.aload_n 0, 1) := by decide +kernel
theorem dX12_write_8 : decode cX12_write 8 = .ok (.getfield 231, 3) := by decide +kernel
theorem dX12_write_11 : decode cX12_write 11 = .ok (.sipush 9999, 3) := by decide +kernel
theorem dX12_write_14 : decode cX12_write 14 = .ok (.if_icmp .ge 26, 3) := by decide +kernel
theorem dX12_write_17 : decode cX12_write 17 = .ok (.aload_n 0, 1) := by decide +kernel
theorem dX12_write_18 : decode cX12_write 18 = .ok (.invokevirtual 244, 3) := by decide +kernel
theorem dX12_write_21 : decode cX12_write 21 = .ok (.bipush 20, 2) := by decide +kernel
theorem dX12_write_23 : decode cX12_write 23 = .ok (.if_icmp .gt 17, 3) := by decide +kernel
theorem dX12_write_26 : decode cX12_write 26 = .ok (.aload_n 0, 1) := by decide +kernel
theorem dX12_write_27 : decode cX12_write 27 = .ok (.getfield 224, 3) := by decide +kernel
theorem dX12_write_30 : decode cX12_write 30 = .ok (.sipush 300, 3) := by decide +kernel
theorem dX12_write_33 : decode cX12_write 33 = .ok (.if_icmp .gt 7, 3) := by decide +kernel
theorem dX12_write_36 : decode cX12_write 36 = .ok (.iconst 1, 1) := by decide +kernel
theorem dX12_write_37 : decode cX12_write 37 = .ok (.goto 4, 3) := by decide +kernel
theorem dX12_write_40 : decode cX12_write 40 = .ok (.iconst 0, 1) := by decide +kernel
theorem dX12_write_41 : decode cX12_write 41 = .ok (.istore_n 1, 1) := by decide +kernel
theorem dX12_write_42 : decode cX12_write 42 = .ok (.aload_n 0, 1) := by decide +kernel
theorem dX12_write_43 : decode cX12_write 43 = .ok (.iload_n 1, 1) := by decide +kernel
theorem dX12_write_44 : decode cX12_write 44 = .ok (.ifCond .eq 7, 3) := by decide +kernel
theorem dX12_write_47 : decode cX12_write 47 = .ok (.iconst 0, 1) := by decide +kernel
theorem dX12_write_48 : decode cX12_write 48 = .ok (.goto 4, 3) := by decide +kernel
theorem dX12_write_51 : decode cX12_write 51 = .ok (.iconst 1, 1) := by decide +kernel
theorem dX12_write_52 : decode cX12_write 52 = .ok (.invokevirtual 126, 3) := by decide +kernel
theorem dX12_write_55 : decode cX12_write 55 = .ok (.ifCond .ne 5, 3) := by decide +kernel
theorem dX12_write_58 : decode cX12_write 58 = .ok (.iconst 0, 1) := by decide +kernel
theorem dX12_write_59 : decode cX12_write 59 = .ok (.ireturn, 1) := by decide +kernel
theorem dX12_write_60 : decode cX12_write 60 = .ok (.aload_n 0, 1) := by decide +kernel
theorem dX12_write_61 : decode cX12_write 61 = .ok (.dup, 1) := by decide +kernel
theorem dX12_write_62 : decode cX12_write 62 = .ok (.getfield 231, 3) := by decide +kernel
theorem dX12_write_65 : decode cX12_write 65 = .ok (.iconst 1, 1) := by decide +kernel
theorem dX12_write_66 : decode cX12_write 66 = .ok (.iadd, 1) := by decide +kernel
theorem dX12_write_67 : decode cX12_write 67 = .ok (.putfield 231, 3) := by decide +kernel
theorem dX12_write_70 : decode cX12_write 70 = .ok (.aload_n 0, 1) := by decide +kernel
theorem dX12_write_71 : decode cX12_write 71 = .ok (.aload_n 0, 1) := by decide +kernel
theorem dX12_write_72 : decode cX12_write 72 = .ok (.getfield 224, 3) := by decide +kernel
theorem dX12_write_75 : decode cX12_write 75 = .ok (.putfield 248, 3) := by decide +kernel
theorem dX12_write_78 : decode cX12_write 78 = .ok (.iconst 0, 1) := by decide +kernel
theorem dX12_write_79 : decode cX12_write 79 = .ok (.istore_n 2, 1) := by decide +kernel
theorem dX12_write_80 : decode cX12_write 80 = .ok (.iload_n 2, 1) := by decide +kernel
theorem dX12_write_81 : decode cX12_write 81 = .ok (.aload_n 0, 1) := by decide +kernel
theorem dX12_write_82 : decode cX12_write 82 = .ok (.getfield 224, 3) := by decide +kernel
theorem dX12_write_85 : decode cX12_write 85 = .ok (.if_icmp .ge 21, 3) := by decide +kernel
theorem dX12_write_88 : decode cX12_write 88 = .ok (.aload_n 0, 1) := by decide +kernel
theorem dX12_write_89 : decode cX12_write 89 = .ok (.getfield 108, 3) := by decide +kernel
theorem dX12_write_92 : decode cX12_write 92 = .ok (.iload_n 2, 1) := by decide +kernel
theorem dX12_write_93 : decode cX12_write 93 = .ok (.aload_n 0, 1) := by decide +kernel
theorem dX12_write_94 : decode cX12_write 94 = .ok (.getfield 105, 3) := by decide +kernel
theorem dX12_write_97 : decode cX12_write 97 = .ok (.iload_n 2, 1) := by decide +kernel
theorem dX12_write_98 : decode cX12_write 98 = .ok (.caload, 1) := by decide +kernel
theorem dX12_write_99 : decode cX12_write 99 = .ok (.castore, 1) := by decide +kernel
theorem dX12_write_100 : decode cX12_write 100 = .ok (.iinc 2 1, 3) := by decide +kernel
theorem dX12_write_103 : decode cX12_write 103 = .ok (.goto (-23), 3) := by decide +kernel
theorem dX12_write_106 : decode cX12_write 106 = .ok (.aload_n 0, 1) := by decide +kernel
theorem dX12_write_107 : decode cX12_write 107 = .ok (.getfield 248, 3) := by decide +kernel
theorem dX12_write_110 : decode cX12_write 110 = .ok (.ireturn, 1) := by decide +kernel
theorem dX12_written_0 : decode cX12_written 0 = .ok (.aload_n 0, 1) := by decide +kernel
theorem dX12_written_1 : decode cX12_written 1 = .ok (.iconst 0, 1) := by decide +kernel
theorem dX12_written_2 : decode cX12_written 2 = .ok (.putfield 111, 3) := by decide +kernel
theorem dX12_written_5 : decode cX12_written 5 = .ok (.aload_n 0, 1) := by decide +kernel
theorem dX12_written_6 : decode cX12_written 6 = .ok (.getfield 248, 3) := by decide +kernel
theorem dX12_written_9 : decode cX12_written 9 = .ok (.ireturn, 1) := by decide +kernel
theorem dX12_letter_0 : decode cX12_letter 0 = .ok (.aload_n 0, 1) := by decide +kernel
theorem dX12_letter_1 : decode cX12_letter 1 = .ok (.iload_n 1, 1) := by decide +kernel
theorem dX12_letter_2 : decode cX12_letter 2 = .ok (.iconst 0, 1) := by decide +kernel
theorem dX12_letter_3 : decode cX12_letter 3 = .ok (.aload_n 0, 1) := by decide +kernel
theorem dX12_letter_4 : decode cX12_letter 4 = .ok (.getfield 248, 3) := by decide +kernel
theorem dX12_letter_7 : decode cX12_letter 7 = .ok (.iconst 1, 1) := by decide +kernel
theorem dX12_letter_8 : decode cX12_letter 8 = .ok (.isub, 1) := by decide +kernel
theorem dX12_letter_9 : decode cX12_letter 9 = .ok (.invokestatic 115, 3) := by decide +kernel
theorem dX12_letter_12 : decode cX12_letter 12 = .ok (.ifCond .eq 7, 3) := by decide +kernel
theorem dX12_letter_15 : decode cX12_letter 15 = .ok (.iconst 0, 1) := by decide +kernel
theorem dX12_letter_16 : decode cX12_letter 16 = .ok (.goto 4, 3) := by decide +kernel
theorem dX12_letter_19 : decode cX12_letter 19 = .ok (.iconst 1, 1) := by decide +kernel
theorem dX12_letter_20 : decode cX12_letter 20 = .ok (.invokevirtual 126, 3) := by decide +kernel
theorem dX12_letter_23 : decode cX12_letter 23 = .ok (.ifCond .eq 12, 3) := by decide +kernel
theorem dX12_letter_26 : decode cX12_letter 26 = .ok (.aload_n 0, 1) := by decide +kernel
theorem dX12_letter_27 : decode cX12_letter 27 = .ok (.getfield 108, 3) := by decide +kernel
theorem dX12_letter_30 : decode cX12_letter 30 = .ok (.iload_n 1, 1) := by decide +kernel
theorem dX12_letter_31 : decode cX12_letter 31 = .ok (.caload, 1) := by decide +kernel
theorem dX12_letter_32 : decode cX12_letter 32 = .ok (.goto 4, 3) := by decide +kernel
theorem dX12_letter_35 : decode cX12_letter 35 = .ok (.iconst 0, 1) := by decide +kernel
theorem dX12_letter_36 : decode cX12_letter 36 = .ok (.ireturn, 1) := by decide +kernel
theorem dX12_feedWritten_0 : decode cX12_feedWritten 0 = .ok (.aload_n 0, 1) := by decide +kernel
theorem dX12_feedWritten_1 : decode cX12_feedWritten 1 = .ok (.aload_n 0, 1) := by decide +kernel
theorem dX12_feedWritten_2 : decode cX12_feedWritten 2 = .ok (.getfield 143, 3) := by decide +kernel
theorem dX12_feedWritten_5 : decode cX12_feedWritten 5 = .ok (.aload_n 0, 1) := by decide +kernel
theorem dX12_feedWritten_6 : decode cX12_feedWritten 6 = .ok (.getfield 248, 3) := by decide +kernel
theorem dX12_feedWritten_9 : decode cX12_feedWritten 9 = .ok (.iadd, 1) := by decide +kernel
theorem dX12_feedWritten_10 : decode cX12_feedWritten 10 = .ok (.sipush 300, 3) := by decide +kernel
theorem dX12_feedWritten_13 : decode cX12_feedWritten 13 = .ok (.if_icmp .le 7, 3) := by decide +kernel
theorem dX12_feedWritten_16 : decode cX12_feedWritten 16 = .ok (.iconst 1, 1) := by decide +kernel
theorem dX12_feedWritten_17 : decode cX12_feedWritten 17 = .ok (.goto 4, 3) := by decide +kernel
theorem dX12_feedWritten_20 : decode cX12_feedWritten 20 = .ok (.iconst 0, 1) := by decide +kernel
theorem dX12_feedWritten_21 : decode cX12_feedWritten 21 = .ok (.invokevirtual 126, 3) := by decide +kernel
theorem dX12_feedWritten_24 : decode cX12_feedWritten 24 = .ok (.ifCond .ne 5, 3) := by decide +kernel
theorem dX12_feedWritten_27 : decode cX12_feedWritten 27 = .ok (.iconst 0, 1) := by decide +kernel
theorem dX12_feedWritten_28 : decode cX12_feedWritten 28 = .ok (.ireturn, 1) := by decide +kernel
theorem dX12_feedWritten_29 : decode cX12_feedWritten 29 = .ok (.iconst 0, 1) := by decide +kernel
theorem dX12_feedWritten_30 : decode cX12_feedWritten 30 = .ok (.istore_n 1, 1) := by decide +kernel
theorem dX12_feedWritten_31 : decode cX12_feedWritten 31 = .ok (.iload_n 1, 1) := by decide +kernel
theorem dX12_feedWritten_32 : decode cX12_feedWritten 32 = .ok (.aload_n 0, 1) := by decide +kernel
theorem dX12_feedWritten_33 : decode cX12_feedWritten 33 = .ok (.getfield 248, 3) := by decide +kernel
theorem dX12_feedWritten_36 : decode cX12_feedWritten 36 = .ok (.if_icmp .ge 34, 3) := by decide +kernel
theorem dX12_feedWritten_39 : decode cX12_feedWritten 39 = .ok (.aload_n 0, 1) := by decide +kernel
theorem dX12_feedWritten_40 : decode cX12_feedWritten 40 = .ok (.getfield 39, 3) := by decide +kernel
theorem dX12_feedWritten_43 : decode cX12_feedWritten 43 = .ok (.aload_n 0, 1) := by decide +kernel
theorem dX12_feedWritten_44 : decode cX12_feedWritten 44 = .ok (.getfield 143, 3) := by decide +kernel
theorem dX12_feedWritten_47 : decode cX12_feedWritten 47 = .ok (.aload_n 0, 1) := by decide +kernel
theorem dX12_feedWritten_48 : decode cX12_feedWritten 48 = .ok (.getfield 108, 3) := by decide +kernel
theorem dX12_feedWritten_51 : decode cX12_feedWritten 51 = .ok (.iload_n 1, 1) := by decide +kernel
theorem dX12_feedWritten_52 : decode cX12_feedWritten 52 = .ok (.caload, 1) := by decide +kernel
theorem dX12_feedWritten_53 : decode cX12_feedWritten 53 = .ok (.castore, 1) := by decide +kernel
theorem dX12_feedWritten_54 : decode cX12_feedWritten 54 = .ok (.aload_n 0, 1) := by decide +kernel
theorem dX12_feedWritten_55 : decode cX12_feedWritten 55 = .ok (.dup, 1) := by decide +kernel
theorem dX12_feedWritten_56 : decode cX12_feedWritten 56 = .ok (.getfield 143, 3) := by decide +kernel
theorem dX12_feedWritten_59 : decode cX12_feedWritten 59 = .ok (.iconst 1, 1) := by decide +kernel
theorem dX12_feedWritten_60 : decode cX12_feedWritten 60 = .ok (.iadd, 1) := by decide +kernel
theorem dX12_feedWritten_61 : decode cX12_feedWritten 61 = .ok (.putfield 143, 3) := by decide +kernel
theorem dX12_feedWritten_64 : decode cX12_feedWritten 64 = .ok (.iinc 1 1, 3) := by decide +kernel
theorem dX12_feedWritten_67 : decode cX12_feedWritten 67 = .ok (.goto (-36), 3) := by decide +kernel
theorem dX12_feedWritten_70 : decode cX12_feedWritten 70 = .ok (.aload_n 0, 1) := by decide +kernel
theorem dX12_feedWritten_71 : decode cX12_feedWritten 71 = .ok (.getfield 143, 3) := by decide +kernel
theorem dX12_feedWritten_74 : decode cX12_feedWritten 74 = .ok (.ireturn, 1) := by decide +kernel
end
section
def NN : Nat := 231
def LAYT_0 : List (Nat × Nat × Nat) := [(0, 11, 0), (0, 8, 0), (6, 10, 0), (5, 11, 0), (0, 2, 0), (0, 0, 0), (0, 2, 0), (0, 2, 0), (0, 2, 0), (0, 2, 0), (0, 2, 0), (0, 2, 0), (0, 2, 0), (0, 2, 0), (0, 2, 0), (0, 2, 0), (0, 0, 0), (0, 0, 0), (0, 0, 0), (0, 0, 0), (0, 0, 0), (0, 0, 0), (0, 0, 0), (0, 0, 0), (0, 0, 0), (0, 0, 0), (0, 0, 0), (0, 10, 0), (2, 300, 0), (0, 1, 0), (1, 141, 0), (1, 141, 0), (0, 5, 0), (0, 3, 0), (1, 10, 0), (1, 12, 0), (1, 10, 0), (1, 11, 0), (0, 7, 0), (7, 10, 0), (0, 6, 0), (1, 5, 0), (0, 6, 0), (1, 5, 0), (0, 6, 0), (1, 5, 0), (0, 6, 0), (1, 5, 0), (0, 6, 0), (1, 5, 0), (0, 6, 0), (1, 5, 0), (0, 6, 0), (1, 5, 0), (0, 6, 0), (1, 5, 0), (0, 6, 0), (1, 5, 0), (0, 6, 0), (1, 5, 0)]
def LAYT_1 : List (Nat × Nat × Nat) := [(0, 6, 0), (1, 5, 0), (0, 4, 0), (8, 20, 0), (0, 9, 0), (2, 40, 0), (1, 5, 0), (0, 9, 0), (2, 40, 0), (1, 5, 0), (0, 9, 0), (2, 40, 0), (1, 5, 0), (0, 9, 0), (2, 40, 0), (1, 5, 0), (0, 9, 0), (2, 40, 0), (1, 5, 0), (0, 9, 0), (2, 40, 0), (1, 5, 0), (0, 9, 0), (2, 40, 0), (1, 5, 0), (0, 9, 0), (2, 40, 0), (1, 5, 0), (0, 9, 0), (2, 40, 0), (1, 5, 0), (0, 9, 0), (2, 40, 0), (1, 5, 0), (0, 9, 0), (2, 40, 0), (1, 5, 0), (0, 9, 0), (2, 40, 0), (1, 5, 0), (0, 9, 0), (2, 40, 0), (1, 5, 0), (0, 9, 0), (2, 40, 0), (1, 5, 0), (0, 9, 0), (2, 40, 0), (1, 5, 0), (0, 9, 0), (2, 40, 0), (1, 5, 0), (0, 9, 0), (2, 40, 0), (1, 5, 0), (0, 9, 0), (2, 40, 0), (1, 5, 0), (0, 9, 0), (2, 40, 0)]
def LAYT_2 : List (Nat × Nat × Nat) := [(1, 5, 0), (0, 9, 0), (2, 40, 0), (1, 5, 0), (0, 9, 0), (2, 40, 0), (1, 5, 0), (0, 4, 0), (8, 20, 0), (0, 9, 0), (2, 40, 0), (1, 5, 0), (0, 9, 0), (2, 40, 0), (1, 5, 0), (0, 9, 0), (2, 40, 0), (1, 5, 0), (0, 9, 0), (2, 40, 0), (1, 5, 0), (0, 9, 0), (2, 40, 0), (1, 5, 0), (0, 9, 0), (2, 40, 0), (1, 5, 0), (0, 9, 0), (2, 40, 0), (1, 5, 0), (0, 9, 0), (2, 40, 0), (1, 5, 0), (0, 9, 0), (2, 40, 0), (1, 5, 0), (0, 9, 0), (2, 40, 0), (1, 5, 0), (0, 9, 0), (2, 40, 0), (1, 5, 0), (0, 9, 0), (2, 40, 0), (1, 5, 0), (0, 9, 0), (2, 40, 0), (1, 5, 0), (0, 9, 0), (2, 40, 0), (1, 5, 0), (0, 9, 0), (2, 40, 0), (1, 5, 0), (0, 9, 0), (2, 40, 0), (1, 5, 0), (0, 9, 0), (2, 40, 0), (1, 5, 0)]
def LAYT_3 : List (Nat × Nat × Nat) := [(0, 9, 0), (2, 40, 0), (1, 5, 0), (0, 9, 0), (2, 40, 0), (1, 5, 0), (0, 9, 0), (2, 40, 0), (1, 5, 0), (0, 9, 0), (2, 40, 0), (1, 5, 0), (0, 10, 0), (2, 300, 0), (0, 10, 0), (2, 300, 0), (0, 12, 0), (2, 10, 0), (1, 10, 0), (1, 10, 0), (1, 10, 0), (3, 12, 0), (1, 12, 0), (1, 12, 0), (1, 12, 0), (1, 12, 0), (2, 300, 0), (1, 160, 0), (1, 160, 0), (1, 20, 0), (2, 20, 0), (1, 20, 0), (1, 100, 0), (2, 800, 0), (2, 20, 0), (1, 20, 0), (1, 100, 0), (2, 800, 0), (1, 20, 0), (1, 20, 0), (3, 19019, 0), (1, 64, 0), (1, 10, 0), (2, 10, 0), (1, 10, 0), (1, 50, 0), (1, 10, 0), (2, 10, 0), (2, 300, 0), (2, 300, 0), (4, 1, 0)]
def LAYT : List (Nat × Nat × Nat) := LAYT_0 ++ (LAYT_1 ++ (LAYT_2 ++ (LAYT_3)))
def TGTT_0 : List (List Nat) := [[1, 27, 29, 32, 38, 62, 127, 0, 0, 0, 192, 194, 0], [2, 3, 4, 5, 0, 0, 0], [6, 7, 8, 9, 10, 11, 12, 13, 14, 15], [16, 17, 18, 19, 20, 21, 22, 23, 24, 25, 26], [0, 0, 0], [0, 0, 0, 0, 0], [0, 0, 0], [0, 0, 0], [0, 0, 0], [0, 0, 0], [0, 0, 0], [0, 0, 0], [0, 0, 0], [0, 0, 0], [0, 0, 0], [0, 0, 0], [0, 0, 0, 0, 0], [0, 0, 0, 0, 0], [0, 0, 0, 0, 0], [0, 0, 0, 0, 0], [0, 0, 0, 0, 0], [0, 0, 0, 0, 0], [0, 0, 0, 0, 0], [0, 0, 0, 0, 0], [0, 0, 0, 0, 0], [0, 0, 0, 0, 0], [0, 0, 0, 0, 0], [28, 0, 0], [], [30, 31, 0], [], [], [29, 33], [1, 34, 35, 36, 37, 0], [], [], [], [], [39, 40, 0], [42, 44, 46, 48, 50, 52, 54, 56, 58, 60], [41, 0, 0, 0, 0, 0], [], [43, 0, 0, 0, 0, 0], [], [45, 0, 0, 0, 0, 0], [], [47, 0, 0, 0, 0, 0], [], [49, 0, 0, 0, 0, 0], [], [51, 0, 0, 0, 0, 0], [], [53, 0, 0, 0, 0, 0], [], [55, 0, 0, 0, 0, 0], [], [57, 0, 0, 0, 0, 0], [], [59, 0, 0, 0, 0, 0], []]
def TGTT_1 : List (List Nat) := [[61, 0, 0, 0, 0, 0], [], [63, 64, 0], [67, 70, 73, 76, 79, 82, 85, 88, 91, 94, 97, 100, 103, 106, 109, 112, 115, 118, 121, 124], [65, 66, 0, 0, 0, 0, 0], [], [], [68, 69, 0, 0, 0, 0, 0], [], [], [71, 72, 0, 0, 0, 0, 0], [], [], [74, 75, 0, 0, 0, 0, 0], [], [], [77, 78, 0, 0, 0, 0, 0], [], [], [80, 81, 0, 0, 0, 0, 0], [], [], [83, 84, 0, 0, 0, 0, 0], [], [], [86, 87, 0, 0, 0, 0, 0], [], [], [89, 90, 0, 0, 0, 0, 0], [], [], [92, 93, 0, 0, 0, 0, 0], [], [], [95, 96, 0, 0, 0, 0, 0], [], [], [98, 99, 0, 0, 0, 0, 0], [], [], [101, 102, 0, 0, 0, 0, 0], [], [], [104, 105, 0, 0, 0, 0, 0], [], [], [107, 108, 0, 0, 0, 0, 0], [], [], [110, 111, 0, 0, 0, 0, 0], [], [], [113, 114, 0, 0, 0, 0, 0], [], [], [116, 117, 0, 0, 0, 0, 0], [], [], [119, 120, 0, 0, 0, 0, 0], []]
def TGTT_2 : List (List Nat) := [[], [122, 123, 0, 0, 0, 0, 0], [], [], [125, 126, 0, 0, 0, 0, 0], [], [], [128, 129, 0], [132, 135, 138, 141, 144, 147, 150, 153, 156, 159, 162, 165, 168, 171, 174, 177, 180, 183, 186, 189], [130, 131, 0, 0, 0, 0, 0], [], [], [133, 134, 0, 0, 0, 0, 0], [], [], [136, 137, 0, 0, 0, 0, 0], [], [], [139, 140, 0, 0, 0, 0, 0], [], [], [142, 143, 0, 0, 0, 0, 0], [], [], [145, 146, 0, 0, 0, 0, 0], [], [], [148, 149, 0, 0, 0, 0, 0], [], [], [151, 152, 0, 0, 0, 0, 0], [], [], [154, 155, 0, 0, 0, 0, 0], [], [], [157, 158, 0, 0, 0, 0, 0], [], [], [160, 161, 0, 0, 0, 0, 0], [], [], [163, 164, 0, 0, 0, 0, 0], [], [], [166, 167, 0, 0, 0, 0, 0], [], [], [169, 170, 0, 0, 0, 0, 0], [], [], [172, 173, 0, 0, 0, 0, 0], [], [], [175, 176, 0, 0, 0, 0, 0], [], [], [178, 179, 0, 0, 0, 0, 0], [], []]
def TGTT_3 : List (List Nat) := [[181, 182, 0, 0, 0, 0, 0], [], [], [184, 185, 0, 0, 0, 0, 0], [], [], [187, 188, 0, 0, 0, 0, 0], [], [], [190, 191, 0, 0, 0, 0, 0], [], [], [193, 0, 0], [], [195, 0, 0], [], [197, 198, 199, 200, 0, 201, 202, 203, 204, 205, 0, 0, 206, 0, 207, 208, 0, 209, 210, 211, 212, 213, 0, 0, 0, 0, 214, 215, 216, 217, 218, 219, 0, 220, 221, 0, 222, 223, 224, 225, 226, 227, 0, 228, 0, 229, 0, 0, 0], [], [], [], [], [], [], [], [], [], [], [], [], [], [], [], [], [], [], [], [], [], [], [], [], [], [], [], [], [], [], [], [], [], []]
def TGTT : List (List Nat) := TGTT_0 ++ (TGTT_1 ++ (TGTT_2 ++ (TGTT_3)))
def lay (k : Nat) : Nat × Nat × Nat := LAYT.getD k (99, 0, 0)
def tgt (k j : Nat) : Nat := (TGTT.getD k []).getD j 0
def FKT : List (List Nat) := [[0, 0, 0, 0, 0], [1, 1, 0], [0, 0, 0], [1, 1, 1, 1, 1, 0], [1, 1, 0], [1, 1], [1, 0, 0, 0, 0, 0], [1, 1, 0], [1, 1, 1, 1, 0, 0, 0], [1, 1, 0, 0, 0, 0, 0], [1, 0, 0], [1, 1, 1, 1, 1, 2, 2, 0, 0, 0, 2, 2, 0], [1, 1, 1, 1, 0, 1, 1, 1, 1, 1, 0, 0, 1, 0, 1, 1, 0, 1, 1, 1, 1, 1, 0, 0, 0, 0, 1, 1, 1, 1, 1, 1, 0, 1, 1, 0, 1, 1, 1, 1, 1, 1, 0, 1, 0, 1, 0, 0, 0]]
def nf (ci : Nat) : Nat := (FKT.getD ci []).length
def fk (ci j : Nat) : Nat := (FKT.getD ci []).getD j 9
abbrev isO (k ci : Nat) : Prop := k < NN ∧ lay k = (0, ci, 0)
abbrev isA (k t n : Nat) : Prop := k < NN ∧ lay k = (t + 1, n, 0)
def arT : List FieldType := [.int, .char, .boolean, .long, .object "Segmentry$Entry", .object "Segmentry$Item", .object "Segmentry$Rule", .object "Segmentry$Segment"]
set_option maxRecDepth 100000 in
theorem lay_all {P : Nat → Prop} {k : Nat} (hk : k < NN) (h : ∀ i : Fin NN, P i.val) : P k := h ⟨k, hk⟩
set_option maxRecDepth 100000 in
theorem st_X1_0 {k : Nat} (h : isO k 1) : tgt k 0 = k + 1 ∧ isA (k + 1) 0 141 := lay_all (P := fun k => lay k = (0, 1, 0) → (tgt k 0 = k + 1 ∧ isA (k + 1) 0 141)) h.1 (by decide +kernel) h.2
set_option maxRecDepth 100000 in
theorem st_X1_1 {k : Nat} (h : isO k 1) : tgt k 1 = k + 2 ∧ isA (k + 2) 0 141 := lay_all (P := fun k => lay k = (0, 1, 0) → (tgt k 1 = k + 2 ∧ isA (k + 2) 0 141)) h.1 (by decide +kernel) h.2
set_option maxRecDepth 100000 in
theorem st_X3_0 {k : Nat} (h : isO k 3) : tgt k 0 = k - 32 ∧ isO (k - 32) 8 := lay_all (P := fun k => lay k = (0, 3, 0) → (tgt k 0 = k - 32 ∧ isO (k - 32) 8)) h.1 (by decide +kernel) h.2
set_option maxRecDepth 100000 in
theorem st_X3_1 {k : Nat} (h : isO k 3) : tgt k 1 = k + 1 ∧ isA (k + 1) 0 10 := lay_all (P := fun k => lay k = (0, 3, 0) → (tgt k 1 = k + 1 ∧ isA (k + 1) 0 10)) h.1 (by decide +kernel) h.2
set_option maxRecDepth 100000 in
theorem st_X3_2 {k : Nat} (h : isO k 3) : tgt k 2 = k + 2 ∧ isA (k + 2) 0 12 := lay_all (P := fun k => lay k = (0, 3, 0) → (tgt k 2 = k + 2 ∧ isA (k + 2) 0 12)) h.1 (by decide +kernel) h.2
set_option maxRecDepth 100000 in
theorem st_X3_3 {k : Nat} (h : isO k 3) : tgt k 3 = k + 3 ∧ isA (k + 3) 0 10 := lay_all (P := fun k => lay k = (0, 3, 0) → (tgt k 3 = k + 3 ∧ isA (k + 3) 0 10)) h.1 (by decide +kernel) h.2
set_option maxRecDepth 100000 in
theorem st_X3_4 {k : Nat} (h : isO k 3) : tgt k 4 = k + 4 ∧ isA (k + 4) 0 11 := lay_all (P := fun k => lay k = (0, 3, 0) → (tgt k 4 = k + 4 ∧ isA (k + 4) 0 11)) h.1 (by decide +kernel) h.2
set_option maxRecDepth 100000 in
theorem st_X4_0 {k : Nat} (h : isO k 4) : tgt k 0 = k + 1 ∧ isA (k + 1) 7 20 := lay_all (P := fun k => lay k = (0, 4, 0) → (tgt k 0 = k + 1 ∧ isA (k + 1) 7 20)) h.1 (by decide +kernel) h.2
set_option maxRecDepth 100000 in
theorem st_X4_1 {k : Nat} (h : isO k 4) : tgt k 1 = k + 2 ∧ isO (k + 2) 9 := lay_all (P := fun k => lay k = (0, 4, 0) → (tgt k 1 = k + 2 ∧ isO (k + 2) 9)) h.1 (by decide +kernel) h.2
set_option maxRecDepth 100000 in
theorem st_X5_0 {k : Nat} (h : isO k 5) : tgt k 0 = k - 3 ∧ isO (k - 3) 1 := lay_all (P := fun k => lay k = (0, 5, 0) → (tgt k 0 = k - 3 ∧ isO (k - 3) 1)) h.1 (by decide +kernel) h.2
set_option maxRecDepth 100000 in
theorem st_X5_1 {k : Nat} (h : isO k 5) : tgt k 1 = k + 1 ∧ isO (k + 1) 3 := lay_all (P := fun k => lay k = (0, 5, 0) → (tgt k 1 = k + 1 ∧ isO (k + 1) 3)) h.1 (by decide +kernel) h.2
set_option maxRecDepth 100000 in
theorem st_X6_0 {k : Nat} (h : isO k 6) : tgt k 0 = k + 1 ∧ isA (k + 1) 0 5 := lay_all (P := fun k => lay k = (0, 6, 0) → (tgt k 0 = k + 1 ∧ isA (k + 1) 0 5)) h.1 (by decide +kernel) h.2
set_option maxRecDepth 100000 in
theorem st_X7_0 {k : Nat} (h : isO k 7) : tgt k 0 = k + 1 ∧ isA (k + 1) 6 10 := lay_all (P := fun k => lay k = (0, 7, 0) → (tgt k 0 = k + 1 ∧ isA (k + 1) 6 10)) h.1 (by decide +kernel) h.2
set_option maxRecDepth 100000 in
theorem st_X7_1 {k : Nat} (h : isO k 7) : tgt k 1 = k + 2 ∧ isO (k + 2) 6 := lay_all (P := fun k => lay k = (0, 7, 0) → (tgt k 1 = k + 2 ∧ isO (k + 2) 6)) h.1 (by decide +kernel) h.2
set_option maxRecDepth 100000 in
theorem st_X8_0 {k : Nat} (h : isO k 8) : tgt k 0 = k + 1 ∧ isA (k + 1) 5 10 := lay_all (P := fun k => lay k = (0, 8, 0) → (tgt k 0 = k + 1 ∧ isA (k + 1) 5 10)) h.1 (by decide +kernel) h.2
set_option maxRecDepth 100000 in
theorem st_X8_1 {k : Nat} (h : isO k 8) : tgt k 1 = k + 2 ∧ isA (k + 2) 4 11 := lay_all (P := fun k => lay k = (0, 8, 0) → (tgt k 1 = k + 2 ∧ isA (k + 2) 4 11)) h.1 (by decide +kernel) h.2
set_option maxRecDepth 100000 in
theorem st_X8_2 {k : Nat} (h : isO k 8) : tgt k 2 = k + 3 ∧ isO (k + 3) 2 := lay_all (P := fun k => lay k = (0, 8, 0) → (tgt k 2 = k + 3 ∧ isO (k + 3) 2)) h.1 (by decide +kernel) h.2
set_option maxRecDepth 100000 in
theorem st_X8_3 {k : Nat} (h : isO k 8) : tgt k 3 = k + 4 ∧ isO (k + 4) 0 := lay_all (P := fun k => lay k = (0, 8, 0) → (tgt k 3 = k + 4 ∧ isO (k + 4) 0)) h.1 (by decide +kernel) h.2
set_option maxRecDepth 100000 in
theorem st_X9_0 {k : Nat} (h : isO k 9) : tgt k 0 = k + 1 ∧ isA (k + 1) 1 40 := lay_all (P := fun k => lay k = (0, 9, 0) → (tgt k 0 = k + 1 ∧ isA (k + 1) 1 40)) h.1 (by decide +kernel) h.2
set_option maxRecDepth 100000 in
theorem st_X9_1 {k : Nat} (h : isO k 9) : tgt k 1 = k + 2 ∧ isA (k + 2) 0 5 := lay_all (P := fun k => lay k = (0, 9, 0) → (tgt k 1 = k + 2 ∧ isA (k + 2) 0 5)) h.1 (by decide +kernel) h.2
set_option maxRecDepth 100000 in
theorem st_X10_0 {k : Nat} (h : isO k 10) : tgt k 0 = k + 1 ∧ isA (k + 1) 1 300 := lay_all (P := fun k => lay k = (0, 10, 0) → (tgt k 0 = k + 1 ∧ isA (k + 1) 1 300)) h.1 (by decide +kernel) h.2
set_option maxRecDepth 100000 in
theorem st_X11_0 {k : Nat} (h : isO k 11) : tgt k 0 = k + 1 ∧ isO (k + 1) 8 := lay_all (P := fun k => lay k = (0, 11, 0) → (tgt k 0 = k + 1 ∧ isO (k + 1) 8)) h.1 (by decide +kernel) h.2
set_option maxRecDepth 100000 in
theorem st_X11_1 {k : Nat} (h : isO k 11) : tgt k 1 = k + 27 ∧ isO (k + 27) 10 := lay_all (P := fun k => lay k = (0, 11, 0) → (tgt k 1 = k + 27 ∧ isO (k + 27) 10)) h.1 (by decide +kernel) h.2
set_option maxRecDepth 100000 in
theorem st_X11_2 {k : Nat} (h : isO k 11) : tgt k 2 = k + 29 ∧ isO (k + 29) 1 := lay_all (P := fun k => lay k = (0, 11, 0) → (tgt k 2 = k + 29 ∧ isO (k + 29) 1)) h.1 (by decide +kernel) h.2
set_option maxRecDepth 100000 in
theorem st_X11_3 {k : Nat} (h : isO k 11) : tgt k 3 = k + 32 ∧ isO (k + 32) 5 := lay_all (P := fun k => lay k = (0, 11, 0) → (tgt k 3 = k + 32 ∧ isO (k + 32) 5)) h.1 (by decide +kernel) h.2
set_option maxRecDepth 100000 in
theorem st_X11_4 {k : Nat} (h : isO k 11) : tgt k 4 = k + 38 ∧ isO (k + 38) 7 := lay_all (P := fun k => lay k = (0, 11, 0) → (tgt k 4 = k + 38 ∧ isO (k + 38) 7)) h.1 (by decide +kernel) h.2
set_option maxRecDepth 100000 in
theorem st_X12_0 {k : Nat} (h : isO k 12) : tgt k 0 = k + 1 ∧ isA (k + 1) 1 10 := lay_all (P := fun k => lay k = (0, 12, 0) → (tgt k 0 = k + 1 ∧ isA (k + 1) 1 10)) h.1 (by decide +kernel) h.2
set_option maxRecDepth 100000 in
theorem st_X12_1 {k : Nat} (h : isO k 12) : tgt k 1 = k + 2 ∧ isA (k + 2) 0 10 := lay_all (P := fun k => lay k = (0, 12, 0) → (tgt k 1 = k + 2 ∧ isA (k + 2) 0 10)) h.1 (by decide +kernel) h.2
set_option maxRecDepth 100000 in
theorem st_X12_2 {k : Nat} (h : isO k 12) : tgt k 2 = k + 3 ∧ isA (k + 3) 0 10 := lay_all (P := fun k => lay k = (0, 12, 0) → (tgt k 2 = k + 3 ∧ isA (k + 3) 0 10)) h.1 (by decide +kernel) h.2
set_option maxRecDepth 100000 in
theorem st_X12_3 {k : Nat} (h : isO k 12) : tgt k 3 = k + 4 ∧ isA (k + 4) 0 10 := lay_all (P := fun k => lay k = (0, 12, 0) → (tgt k 3 = k + 4 ∧ isA (k + 4) 0 10)) h.1 (by decide +kernel) h.2
set_option maxRecDepth 100000 in
theorem st_X12_5 {k : Nat} (h : isO k 12) : tgt k 5 = k + 5 ∧ isA (k + 5) 2 12 := lay_all (P := fun k => lay k = (0, 12, 0) → (tgt k 5 = k + 5 ∧ isA (k + 5) 2 12)) h.1 (by decide +kernel) h.2
set_option maxRecDepth 100000 in
theorem st_X12_6 {k : Nat} (h : isO k 12) : tgt k 6 = k + 6 ∧ isA (k + 6) 0 12 := lay_all (P := fun k => lay k = (0, 12, 0) → (tgt k 6 = k + 6 ∧ isA (k + 6) 0 12)) h.1 (by decide +kernel) h.2
set_option maxRecDepth 100000 in
theorem st_X12_7 {k : Nat} (h : isO k 12) : tgt k 7 = k + 7 ∧ isA (k + 7) 0 12 := lay_all (P := fun k => lay k = (0, 12, 0) → (tgt k 7 = k + 7 ∧ isA (k + 7) 0 12)) h.1 (by decide +kernel) h.2
set_option maxRecDepth 100000 in
theorem st_X12_8 {k : Nat} (h : isO k 12) : tgt k 8 = k + 8 ∧ isA (k + 8) 0 12 := lay_all (P := fun k => lay k = (0, 12, 0) → (tgt k 8 = k + 8 ∧ isA (k + 8) 0 12)) h.1 (by decide +kernel) h.2
set_option maxRecDepth 100000 in
theorem st_X12_9 {k : Nat} (h : isO k 12) : tgt k 9 = k + 9 ∧ isA (k + 9) 0 12 := lay_all (P := fun k => lay k = (0, 12, 0) → (tgt k 9 = k + 9 ∧ isA (k + 9) 0 12)) h.1 (by decide +kernel) h.2
set_option maxRecDepth 100000 in
theorem st_X12_12 {k : Nat} (h : isO k 12) : tgt k 12 = k + 10 ∧ isA (k + 10) 1 300 := lay_all (P := fun k => lay k = (0, 12, 0) → (tgt k 12 = k + 10 ∧ isA (k + 10) 1 300)) h.1 (by decide +kernel) h.2
set_option maxRecDepth 100000 in
theorem st_X12_14 {k : Nat} (h : isO k 12) : tgt k 14 = k + 11 ∧ isA (k + 11) 0 160 := lay_all (P := fun k => lay k = (0, 12, 0) → (tgt k 14 = k + 11 ∧ isA (k + 11) 0 160)) h.1 (by decide +kernel) h.2
set_option maxRecDepth 100000 in
theorem st_X12_15 {k : Nat} (h : isO k 12) : tgt k 15 = k + 12 ∧ isA (k + 12) 0 160 := lay_all (P := fun k => lay k = (0, 12, 0) → (tgt k 15 = k + 12 ∧ isA (k + 12) 0 160)) h.1 (by decide +kernel) h.2
set_option maxRecDepth 100000 in
theorem st_X12_17 {k : Nat} (h : isO k 12) : tgt k 17 = k + 13 ∧ isA (k + 13) 0 20 := lay_all (P := fun k => lay k = (0, 12, 0) → (tgt k 17 = k + 13 ∧ isA (k + 13) 0 20)) h.1 (by decide +kernel) h.2
set_option maxRecDepth 100000 in
theorem st_X12_18 {k : Nat} (h : isO k 12) : tgt k 18 = k + 14 ∧ isA (k + 14) 1 20 := lay_all (P := fun k => lay k = (0, 12, 0) → (tgt k 18 = k + 14 ∧ isA (k + 14) 1 20)) h.1 (by decide +kernel) h.2
set_option maxRecDepth 100000 in
theorem st_X12_19 {k : Nat} (h : isO k 12) : tgt k 19 = k + 15 ∧ isA (k + 15) 0 20 := lay_all (P := fun k => lay k = (0, 12, 0) → (tgt k 19 = k + 15 ∧ isA (k + 15) 0 20)) h.1 (by decide +kernel) h.2
set_option maxRecDepth 100000 in
theorem st_X12_20 {k : Nat} (h : isO k 12) : tgt k 20 = k + 16 ∧ isA (k + 16) 0 100 := lay_all (P := fun k => lay k = (0, 12, 0) → (tgt k 20 = k + 16 ∧ isA (k + 16) 0 100)) h.1 (by decide +kernel) h.2
set_option maxRecDepth 100000 in
theorem st_X12_21 {k : Nat} (h : isO k 12) : tgt k 21 = k + 17 ∧ isA (k + 17) 1 800 := lay_all (P := fun k => lay k = (0, 12, 0) → (tgt k 21 = k + 17 ∧ isA (k + 17) 1 800)) h.1 (by decide +kernel) h.2
set_option maxRecDepth 100000 in
theorem st_X12_26 {k : Nat} (h : isO k 12) : tgt k 26 = k + 18 ∧ isA (k + 18) 1 20 := lay_all (P := fun k => lay k = (0, 12, 0) → (tgt k 26 = k + 18 ∧ isA (k + 18) 1 20)) h.1 (by decide +kernel) h.2
set_option maxRecDepth 100000 in
theorem st_X12_27 {k : Nat} (h : isO k 12) : tgt k 27 = k + 19 ∧ isA (k + 19) 0 20 := lay_all (P := fun k => lay k = (0, 12, 0) → (tgt k 27 = k + 19 ∧ isA (k + 19) 0 20)) h.1 (by decide +kernel) h.2
set_option maxRecDepth 100000 in
theorem st_X12_28 {k : Nat} (h : isO k 12) : tgt k 28 = k + 20 ∧ isA (k + 20) 0 100 := lay_all (P := fun k => lay k = (0, 12, 0) → (tgt k 28 = k + 20 ∧ isA (k + 20) 0 100)) h.1 (by decide +kernel) h.2
set_option maxRecDepth 100000 in
theorem st_X12_29 {k : Nat} (h : isO k 12) : tgt k 29 = k + 21 ∧ isA (k + 21) 1 800 := lay_all (P := fun k => lay k = (0, 12, 0) → (tgt k 29 = k + 21 ∧ isA (k + 21) 1 800)) h.1 (by decide +kernel) h.2
set_option maxRecDepth 100000 in
theorem st_X12_30 {k : Nat} (h : isO k 12) : tgt k 30 = k + 22 ∧ isA (k + 22) 0 20 := lay_all (P := fun k => lay k = (0, 12, 0) → (tgt k 30 = k + 22 ∧ isA (k + 22) 0 20)) h.1 (by decide +kernel) h.2
set_option maxRecDepth 100000 in
theorem st_X12_31 {k : Nat} (h : isO k 12) : tgt k 31 = k + 23 ∧ isA (k + 23) 0 20 := lay_all (P := fun k => lay k = (0, 12, 0) → (tgt k 31 = k + 23 ∧ isA (k + 23) 0 20)) h.1 (by decide +kernel) h.2
set_option maxRecDepth 100000 in
theorem st_X12_33 {k : Nat} (h : isO k 12) : tgt k 33 = k + 24 ∧ isA (k + 24) 2 19019 := lay_all (P := fun k => lay k = (0, 12, 0) → (tgt k 33 = k + 24 ∧ isA (k + 24) 2 19019)) h.1 (by decide +kernel) h.2
set_option maxRecDepth 100000 in
theorem st_X12_34 {k : Nat} (h : isO k 12) : tgt k 34 = k + 25 ∧ isA (k + 25) 0 64 := lay_all (P := fun k => lay k = (0, 12, 0) → (tgt k 34 = k + 25 ∧ isA (k + 25) 0 64)) h.1 (by decide +kernel) h.2
set_option maxRecDepth 100000 in
theorem st_X12_36 {k : Nat} (h : isO k 12) : tgt k 36 = k + 26 ∧ isA (k + 26) 0 10 := lay_all (P := fun k => lay k = (0, 12, 0) → (tgt k 36 = k + 26 ∧ isA (k + 26) 0 10)) h.1 (by decide +kernel) h.2
set_option maxRecDepth 100000 in
theorem st_X12_37 {k : Nat} (h : isO k 12) : tgt k 37 = k + 27 ∧ isA (k + 27) 1 10 := lay_all (P := fun k => lay k = (0, 12, 0) → (tgt k 37 = k + 27 ∧ isA (k + 27) 1 10)) h.1 (by decide +kernel) h.2
set_option maxRecDepth 100000 in
theorem st_X12_38 {k : Nat} (h : isO k 12) : tgt k 38 = k + 28 ∧ isA (k + 28) 0 10 := lay_all (P := fun k => lay k = (0, 12, 0) → (tgt k 38 = k + 28 ∧ isA (k + 28) 0 10)) h.1 (by decide +kernel) h.2
set_option maxRecDepth 100000 in
theorem st_X12_39 {k : Nat} (h : isO k 12) : tgt k 39 = k + 29 ∧ isA (k + 29) 0 50 := lay_all (P := fun k => lay k = (0, 12, 0) → (tgt k 39 = k + 29 ∧ isA (k + 29) 0 50)) h.1 (by decide +kernel) h.2
set_option maxRecDepth 100000 in
theorem st_X12_40 {k : Nat} (h : isO k 12) : tgt k 40 = k + 30 ∧ isA (k + 30) 0 10 := lay_all (P := fun k => lay k = (0, 12, 0) → (tgt k 40 = k + 30 ∧ isA (k + 30) 0 10)) h.1 (by decide +kernel) h.2
set_option maxRecDepth 100000 in
theorem st_X12_41 {k : Nat} (h : isO k 12) : tgt k 41 = k + 31 ∧ isA (k + 31) 1 10 := lay_all (P := fun k => lay k = (0, 12, 0) → (tgt k 41 = k + 31 ∧ isA (k + 31) 1 10)) h.1 (by decide +kernel) h.2
set_option maxRecDepth 100000 in
theorem st_X12_43 {k : Nat} (h : isO k 12) : tgt k 43 = k + 32 ∧ isA (k + 32) 1 300 := lay_all (P := fun k => lay k = (0, 12, 0) → (tgt k 43 = k + 32 ∧ isA (k + 32) 1 300)) h.1 (by decide +kernel) h.2
set_option maxRecDepth 100000 in
theorem st_X12_45 {k : Nat} (h : isO k 12) : tgt k 45 = k + 33 ∧ isA (k + 33) 1 300 := lay_all (P := fun k => lay k = (0, 12, 0) → (tgt k 45 = k + 33 ∧ isA (k + 33) 1 300)) h.1 (by decide +kernel) h.2
set_option maxRecDepth 100000 in
theorem el_Entry {k : Nat} (h : isA k 4 11) : ∀ i, i < 11 → tgt k i = k + (13 + 1 * i) ∧ isO (k + (13 + 1 * i)) 0 := fun i hi => lay_all (P := fun k => lay k = (5, 11, 0) → ∀ i : Fin 11, (tgt k i.val = k + (13 + 1 * i.val) ∧ isO (k + (13 + 1 * i.val)) 0)) h.1 (by decide +kernel) h.2 ⟨i, hi⟩
set_option maxRecDepth 100000 in
theorem el_Item {k : Nat} (h : isA k 5 10) : ∀ i, i < 10 → tgt k i = k + (4 + 1 * i) ∧ isO (k + (4 + 1 * i)) 2 := fun i hi => lay_all (P := fun k => lay k = (6, 10, 0) → ∀ i : Fin 10, (tgt k i.val = k + (4 + 1 * i.val) ∧ isO (k + (4 + 1 * i.val)) 2)) h.1 (by decide +kernel) h.2 ⟨i, hi⟩
set_option maxRecDepth 100000 in
theorem el_Rule {k : Nat} (h : isA k 6 10) : ∀ i, i < 10 → tgt k i = k + (3 + 2 * i) ∧ isO (k + (3 + 2 * i)) 6 := fun i hi => lay_all (P := fun k => lay k = (7, 10, 0) → ∀ i : Fin 10, (tgt k i.val = k + (3 + 2 * i.val) ∧ isO (k + (3 + 2 * i.val)) 6)) h.1 (by decide +kernel) h.2 ⟨i, hi⟩
set_option maxRecDepth 100000 in
theorem el_Segment {k : Nat} (h : isA k 7 20) : ∀ i, i < 20 → tgt k i = k + (4 + 3 * i) ∧ isO (k + (4 + 3 * i)) 9 := fun i hi => lay_all (P := fun k => lay k = (8, 20, 0) → ∀ i : Fin 20, (tgt k i.val = k + (4 + 3 * i.val) ∧ isO (k + (4 + 3 * i.val)) 9)) h.1 (by decide +kernel) h.2 ⟨i, hi⟩
end
section
/-! the words of the tables that hold in every later state; memory, locals, the judgement WF -/
def okw (w : Cond) : Bool := goodWord w || (match w with
  | .fieldLinkNest .. => true
  | .methodLinkNest .. => true
  | .declares _ => true
  | .castable .. => true
  | .arrayOver (.object _) => true
  | _ => false)
def LT : List Cond := lw_tbl.filter okw
theorem LT.mem {w : Cond} (h : w ∈ lw_tbl) (hg : okw w = true) : w ∈ LT := List.mem_filter.mpr ⟨h, hg⟩
def TB (U : State) : Prop := ∀ w ∈ LT, w.before #[] U = true
theorem TB.ofAll {args : Array Value} {s : State} (h : ∀ w ∈ lw_tbl, w.before args s = true) : TB s := by
  intro w hw
  obtain ⟨h1, h2⟩ := List.mem_filter.mp hw
  have h3 := h w h1
  by_cases g : goodWord w = true
  · exact word_at (State.WarmedH.refl s) (good_of_word g) h3
  · have g' : goodWord w = false := by simpa using g
    simp only [okw, g', Bool.false_or] at h2
    split at h2 <;> first | exact va_Nw.of rfl h3 | exact va_AO.of h3 | cases h2
theorem TB.warm {s U : State} (hW : s.WarmedH U.vm) (h : TB s) : TB U := by
  intro w hw
  obtain ⟨h1, h2⟩ := List.mem_filter.mp hw
  have h3 := h w hw
  by_cases g : goodWord w = true
  · exact word_at hW (good_of_word g) h3
  · have g' : goodWord w = false := by simpa using g
    simp only [okw, g', Bool.false_or] at h2
    split at h2
    · exact va_Nw.warmF hW h3
    · exact va_Nw.warmM hW h3
    · exact va_Nw.warmD hW h3
    · exact va_Nw.warmC hW h3
    · exact va_AO.moved hW.alike h3
    · cases h2
theorem TB.use {s : State} (h : TB s) (args : Array Value) : ∀ w ∈ LT, w.before args s = true := by
  intro w hw
  obtain ⟨h1, h2⟩ := List.mem_filter.mp hw
  have h3 := h w hw
  by_cases g : goodWord w = true
  · exact word_at (State.WarmedH.refl s) (good_of_word g) h3
  · have g' : goodWord w = false := by simpa using g
    simp only [okw, g', Bool.false_or] at h2
    split at h2 <;> first | exact va_Nw.use rfl h3 | exact va_AO.use h3 | cases h2
theorem GoodIn.one {w : Cond} (h : w ∈ LT) (g : goodWord w = true) : GoodIn LT [w] := by
  intro x hx
  rw [List.mem_singleton.mp hx]
  exact ⟨h, good_of_word g⟩

/-! memory -/
abbrev Mem : Type := Nat → Nat → Int32
def ms (I : Mem) (k j : Nat) (v : Int32) : Mem := fun a b => if a = k ∧ b = j then v else I a b
def gd {R : Type} (b : Bool) (e : Option R) : Option R := match b with
  | true => e
  | false => none
def inb (i : Int32) (n : Nat) : Bool := !(decide (i < 0) || decide (n ≤ i.toNatClampNeg))
def bnd {α β : Type} (a : α) (f : α → β) : β := f a
def loopF {α β : Type} (body : α → Option (α ⊕ β)) : Nat → α → Option β
  | 0, _ => none
  | n + 1, a => match body a with
    | none => none
    | some (.inl a') => loopF body n a'
    | some (.inr b) => some b
def FU : Nat := 100000
theorem inb_in {i : Int32} {n : Nat} (h : inb i n = true) : vp_in i n := by
  simp only [inb, Bool.not_eq_true', Bool.or_eq_false_iff, decide_eq_false_iff_not] at h
  exact fun q => q.elim h.1 h.2
theorem inb_lt {i : Int32} {n : Nat} (h : inb i n = true) : i.toNatClampNeg < n := Nat.not_le.mp fun q => inb_in h (Or.inr q)

/-! locals by their places -/
def hasL (ls : Array Slot) (L : List (Option Value)) : Prop := ls.size = L.length ∧ lv_wf ls ∧ ∀ (i : Nat) (v : Value), L[i]? = some (some v) → ls[i]? = some (.val v) ∧ v.category = 1
def enL (L : List (Option Value)) : List (Nat × Value) := (List.range L.length).filterMap (fun i => (L.getD i none).map (fun v => (i, v)))
theorem enL_mem {L : List (Option Value)} {q : Nat × Value} : q ∈ enL L ↔ L[q.1]? = some (some q.2) := by
  obtain ⟨i, v⟩ := q
  simp only [enL, List.mem_filterMap, List.mem_range, Option.map_eq_some_iff, Prod.mk.injEq]
  constructor
  · rintro ⟨j, hj, w, hw, rfl, rfl⟩
    rw [List.getD_eq_getElem?_getD] at hw
    rw [List.getElem?_eq_getElem hj] at hw ⊢
    simpa using hw
  · intro h
    have hl := (List.getElem?_eq_some_iff.mp h).1
    refine ⟨i, hl, v, ?_, rfl, rfl⟩
    rw [List.getD_eq_getElem?_getD, h]
    rfl
theorem hasL.has {ls : Array Slot} {L : List (Option Value)} (h : hasL ls L) : lv_has ls L.length (enL L) :=
  ⟨h.1, h.2.1, fun q hq => (h.2.2 q.1 q.2 (enL_mem.mp hq)).1⟩
theorem hasL.get {ls : Array Slot} {L : List (Option Value)} (h : hasL ls L) {i : Nat} {v : Value} (hi : L[i]? = some (some v)) : ls[i]? = some (.val v) := (h.2.2 i v hi).1
theorem hasL.of {ls' : Array Slot} {L : List (Option Value)} {i : Nat} {v : Value} (hi : i < L.length) (hc : v.category = 1) (hL : ∀ (j : Nat) (w : Value), L[j]? = some (some w) → w.category = 1)
    (h : lv_has ls' L.length ((i, v) :: (enL L).filter (fun q => !(q.1 == i) && !(q.1 + 1 == i && q.2.category == 2)))) : hasL ls' (L.set i (some v)) := by
  obtain ⟨h1, h2, h3⟩ := h
  refine ⟨by rw [List.length_set]; exact h1, h2, fun j w hw => ?_⟩
  by_cases e : j = i
  · subst e
    rw [List.getElem?_set_self hi] at hw
    cases hw
    exact ⟨h3 (j, v) List.mem_cons_self, hc⟩
  · rw [List.getElem?_set_ne (Ne.symm e)] at hw
    have hcw := hL j w hw
    refine ⟨h3 (j, w) (List.mem_cons_of_mem _ (List.mem_filter.mpr ⟨enL_mem.mpr hw, ?_⟩)), hcw⟩
    simp [e, hcw]
theorem hasL.cat {ls : Array Slot} {L : List (Option Value)} (h : hasL ls L) : ∀ (j : Nat) (w : Value), L[j]? = some (some w) → w.category = 1 := fun j w hw => (h.2.2 j w hw).2
/-- fewer known locals -/
theorem hasL.less {ls : Array Slot} {L L' : List (Option Value)} (h : hasL ls L) (hl : L'.length = L.length) (hs : ∀ (i : Nat) (v : Value), L'[i]? = some (some v) → L[i]? = some (some v)) : hasL ls L' :=
  ⟨by rw [hl]; exact h.1, h.2.1, fun i v hi => h.2.2 i v (hs i v hi)⟩
theorem lv_args_mem : ∀ (vs : List Value) (n : Nat), (∀ v ∈ vs, v.category = 1) → ∀ (i : Nat) (v : Value), vs[i]? = some v → (n + i, v) ∈ lv_args n vs
  | [], _, _, i, v, h => by simp at h
  | w :: vs, n, hc, i, v, h => by
    have hw : ¬ w.category = 2 := by have := hc w List.mem_cons_self; omega
    simp only [lv_args, if_neg hw]
    cases i with
    | zero =>
      rw [List.getElem?_cons_zero] at h
      cases h
      exact List.mem_cons_self
    | succ i =>
      rw [List.getElem?_cons_succ] at h
      have := lv_args_mem vs (n + 1) (fun v hv => hc v (List.mem_cons_of_mem _ hv)) i v h
      rw [show n + (i + 1) = n + 1 + i by omega]
      exact List.mem_cons_of_mem _ this
theorem lg_sl_len : ∀ (vs : List Value), (∀ v ∈ vs, v.category = 1) → (lg_sl vs).length = vs.length
  | [], _ => rfl
  | w :: vs, hc => by
    have hw : ¬ w.category = 2 := by have := hc w List.mem_cons_self; omega
    have ih := lg_sl_len vs (fun v hv => hc v (List.mem_cons_of_mem _ hv))
    simp only [lg_sl, List.flatMap_cons, if_neg hw] at ih ⊢
    rw [List.length_append, ih]
    simp only [List.length_cons, List.length_nil]
    omega
theorem hasL.entry (vs : List Value) (n : Nat) (hc : ∀ v ∈ vs, v.category = 1) (hn : vs.length ≤ n) : hasL ((lg_sl vs ++ List.replicate (n - (lg_sl vs).length) Slot.unset).toArray) (vs.map some ++ List.replicate (n - vs.length) none) := by
  obtain ⟨h1, h2, h3⟩ := lv_entry vs (n := n) (by rw [lg_sl_len vs hc]; exact hn)
  refine ⟨by rw [h1]; simp; omega, h2, fun i v hi => ?_⟩
  by_cases hl : i < vs.length
  · rw [List.getElem?_append_left (by simpa using hl), List.getElem?_map] at hi
    cases hv : vs[i]? with
    | none => rw [hv] at hi; simp at hi
    | some w =>
      rw [hv] at hi
      simp at hi
      subst hi
      exact ⟨h3 (i, w) (by have := lv_args_mem vs 0 hc i w hv; rwa [Nat.zero_add] at this), hc w (List.mem_of_getElem? hv)⟩
  · rw [List.getElem?_append_right (by simp; omega), List.getElem?_replicate] at hi
    split at hi <;> simp at hi
end
section
def strs : List (String × Nat × String) := [("Segmentry", 72, "tag, least or most is not as told"), ("Segmentry", 83, "there are 10 items"), ("Segmentry", 90, "least or most is not as told"), ("Segmentry", 96, "a loop is open"), ("Segmentry", 105, "no loop is open, or it has no items"), ("Segmentry", 121, "the letter is not from 32 to 126"), ("Segmentry", 126, "the text has 300 letters"), ("Segmentry", 266, "no such fault"), ("Segmentry", 161, "no message was accepted yet"), ("Segmentry", 268, "there is no accepted message"), ("Segmentry", 270, "no such segment"), ("Segmentry", 272, "no such element"), ("Segmentry", 194, "no such letter"), ("Segmentry", 207, "no such item"), ("Segmentry", 209, "tag is not as told"), ("Segmentry", 212, "there are 10 rules"), ("Segmentry", 274, "no such rule"), ("Segmentry", 221, "element is out of range"), ("Segmentry", 232, "the rule has 5 fields"), ("Segmentry", 237, "element or letter is out of range"), ("Segmentry", 246, "9999 messages were written"), ("Segmentry", 252, "the message would have too many segments or letters"), ("Segmentry", 257, "the text would have more than 300 letters")]
/-! the persistent objects: the world that a memory stands for -/
abbrev Gx : Type := Nat × (Nat → ClassId) × (Nat → Nat → Nat) × (Nat → ClassId)
def rf (G : Gx) (k : Nat) : Value := .ref (G.1 + k)
def fV (G : Gx) (row : Nat → Int32) (ci k j : Nat) : Value := match fk ci j with
  | 0 => .int (row j)
  | 1 => .ref (G.1 + tgt k j)
  | _ => .ref (G.1 + (row j).toNatClampNeg)
def cellR (G : Gx) (row : Nat → Int32) (k : Nat) : va_E := match lay k with
  | (0, ci, _) => .inr (ci, (List.range (nf ci)).map (fV G row ci k))
  | (1, n, _) => .inl (G.2.2.2 0, n, .inl row)
  | (2, n, _) => .inl (G.2.2.2 1, n, .inl row)
  | (3, n, _) => .inl (G.2.2.2 2, n, .inl row)
  | (4, n, _) => .inl (G.2.2.2 3, n, .inr (.inl (fun i => (row i).toInt64)))
  | (t + 5, n, _) => .inl (G.2.2.2 (t + 4), n, .inr (.inr (.inr (.inr (fun i => some (G.1 + tgt k i))))))
def wd (G : Gx) (I : Mem) : va_W := (List.range NN).map (fun k => (G.1 + k, cellR G (I k) k))
def Dg (G : Gx) : va_G := (G.2.1, G.2.2.1)
def tysG (G : Gx) : List (ClassId × FieldType) := (List.range arT.length).map (fun t => (G.2.2.2 t, arT.getD t .int))
def Ab (G : Gx) : Nat → Prop := fun q => G.1 ≤ q
def Rep (G : Gx) (I : Mem) (H : Heap) : Prop := va_P (Dg G) vwCl (wd G I) H
theorem wd_get {G : Gx} {I : Mem} {k : Nat} (hk : k < NN) : (wd G I)[k]? = some (G.1 + k, cellR G (I k) k) := by
  simp [wd, hk]
theorem wd_apart {G : Gx} {I : Mem} : va_D (Ab G) (wd G I) := by
  refine ⟨fun i j p q hi hj hpq => ?_, fun k q hq => ?_⟩
  · have li := (List.getElem?_eq_some_iff.mp hi).1
    have lj := (List.getElem?_eq_some_iff.mp hj).1
    simp only [wd, List.length_map, List.length_range] at li lj
    rw [wd_get li] at hi
    rw [wd_get lj] at hj
    cases hi
    cases hj
    simp only at hpq
    omega
  · have lk := (List.getElem?_eq_some_iff.mp hq).1
    simp only [wd, List.length_map, List.length_range] at lk
    rw [wd_get lk] at hq
    cases hq
    exact Nat.le_add_right _ _
theorem wd_set {G : Gx} {I I' : Mem} {k : Nat} {e : va_E} (hk : k < NN) (he : cellR G (I' k) k = e) (ho : ∀ a, a ≠ k → I' a = I a) : (wd G I).set k (G.1 + k, e) = wd G I' := by
  apply List.ext_getElem?
  intro a
  by_cases h : a = k
  · subst h
    rw [List.getElem?_set_self (by simp [wd, hk]), wd_get hk, he]
  · rw [List.getElem?_set_ne (Ne.symm h)]
    by_cases ha : a < NN
    · rw [wd_get ha, wd_get ha, ho a h]
    · rw [List.getElem?_eq_none (by simp [wd]; omega), List.getElem?_eq_none (by simp [wd]; omega)]
theorem ms_ne {I : Mem} {k j a : Nat} {v : Int32} (h : a ≠ k) : ms I k j v a = I a := by
  funext b
  simp [ms, h]
theorem ms_row {I : Mem} {k j : Nat} {v : Int32} : ms I k j v k = upd (I k) j v := by
  funext b
  simp [ms, upd]
theorem cell_O {G : Gx} {row : Nat → Int32} {k ci : Nat} (h : isO k ci) : cellR G row k = .inr (ci, (List.range (nf ci)).map (fV G row ci k)) := by
  simp only [cellR, h.2]
theorem fs_get {G : Gx} {row : Nat → Int32} {k ci j : Nat} (hj : j < nf ci) : ((List.range (nf ci)).map (fV G row ci k))[j]? = some (fV G row ci k j) := by simp [hj]
theorem fs_set {G : Gx} {row : Nat → Int32} {k ci j : Nat} {v : Int32} {w : Value} (hw : fV G (upd row j v) ci k j = w) : ((List.range (nf ci)).map (fV G row ci k)).set j w = (List.range (nf ci)).map (fV G (upd row j v) ci k) := by
  apply List.ext_getElem?
  intro a
  by_cases h : a = j
  · subst h
    by_cases ha : a < nf ci
    · rw [List.getElem?_set_self (by simpa using ha), fs_get ha, hw]
    · rw [List.getElem?_eq_none (by simp; omega), List.getElem?_eq_none (by simp; omega)]
  · rw [List.getElem?_set_ne (Ne.symm h)]
    by_cases ha : a < nf ci
    · rw [fs_get ha, fs_get ha]
      simp only [fV, upd, if_neg h]
    · rw [List.getElem?_eq_none (by simp; omega), List.getElem?_eq_none (by simp; omega)]
/-- what is known of a state: the classes, the arrays' classes, the tables' words, the two statics of Throwable, the texts -/
def KK (G : Gx) (U : State) : Prop := va_K (Dg G) vwCl (tysG G) U ∧ TB U ∧ vx_Zq Bundle.tN "UNASSIGNED_STACK" Bundle.steD (Ab G) U U.heap ∧ vx_Zq Bundle.tN "SUPPRESSED_SENTINEL" Bundle.listD (Ab G) U U.heap ∧ ∀ q ∈ strs, ∃ sa, vk_R q.1 q.2.1 q.2.2 sa U
theorem KK.go {G : Gx} {s U : State} {H : Heap} {locs : List Loc} (h : KK G s) (hW : s.WarmedH U.vm) (hS : va_S (Ab G) s.heap H locs) (hU : U.heap = H) : KK G U := by
  obtain ⟨h1, h2, h3, h4, h5⟩ := h
  refine ⟨va_K.moved hW.alike h1, TB.warm hW h2, ?_, ?_, fun q hq => ?_⟩
  · rw [hU]; exact vx_Zq.moved hW.alike (h3.kept hS.2.1)
  · rw [hU]; exact vx_Zq.moved hW.alike (h4.kept hS.2.1)
  · obtain ⟨sa, h⟩ := h5 q hq
    exact ⟨sa, vk_R.warm hW h⟩
def St (G : Gx) (I : Mem) (U : State) : Prop := Rep G I U.heap ∧ KK G U
/-! the judgement -/
abbrev Fr : Type := Program × Launch × Env × Room × State × MethodId × Array Value × List Frame × Method × Code
abbrev Zx : Type := Fr × Gx × Nat × Nat × (State → Prop)
abbrev zp (Z : Zx) : Program := Z.1.1
abbrev zl (Z : Zx) : Launch := Z.1.2.1
abbrev ze (Z : Zx) : Env := Z.1.2.2.1
abbrev zR (Z : Zx) : Room := Z.1.2.2.2.1
abbrev zs (Z : Zx) : State := Z.1.2.2.2.2.1
abbrev zm (Z : Zx) : MethodId := Z.1.2.2.2.2.2.1
abbrev za (Z : Zx) : Array Value := Z.1.2.2.2.2.2.2.1
abbrev zb (Z : Zx) : List Frame := Z.1.2.2.2.2.2.2.2.1
abbrev zh (Z : Zx) : Method := Z.1.2.2.2.2.2.2.2.2.1
abbrev zc (Z : Zx) : Code := Z.1.2.2.2.2.2.2.2.2.2
abbrev zG (Z : Zx) : Gx := Z.2.1
abbrev WZ (Z : Zx) (H : Heap) (locs : List Loc) (g : JFrame) : Prop := W (zp Z) (zl Z) (ze Z) (zR Z) (zs Z) (zm Z) (za Z) (zb Z) (zh Z) (zc Z) H locs Z.2.2.1 Z.2.2.2.1 Z.2.2.2.2 g
def WM (Z : Zx) (I : Mem) (pc : Nat) (L : List (Option Value)) (st : List Value) : Prop :=
  ∀ (H : Heap) (locs : List Loc) (ls : Array Slot), Rep (zG Z) I H → va_S (Ab (zG Z)) (zs Z).heap H locs → hasL ls L → WZ Z H locs (F0 (zm Z) pc ls st)
def WF {R : Type} (Z : Zx) (K : R → Prop) (e : Option R) (I : Mem) (pc : Nat) (L : List (Option Value)) (st : List Value) : Prop := ∀ x, e = some x → K x → WM Z I pc L st
/-- what stays fixed in a method's body -/
def Cx (Z : Zx) (cc : ByteArray) (nL : Nat) (own : String) : Prop :=
  (zp Z).tables.exec = Jvm.exec ∧ (zc Z).code = cc ∧ (zc Z).maxLocals = nL ∧ (zs Z).vm.findClass own = some (zm Z).cls ∧ (zh Z).locks = false ∧ KK (zG Z) (zs Z) ∧ Z.2.2.1 ≤ (zR Z).cells ∧ Z.2.2.2.1 ≤ (zR Z).slots
section CxS
variable {Z : Zx} {cc : ByteArray} {nL : Nat} {own : String}
theorem Cx.x (C : Cx Z cc nL own) : (zp Z).tables.exec = Jvm.exec := C.1
theorem Cx.b (C : Cx Z cc nL own) : (zc Z).code = cc := C.2.1
theorem Cx.ml (C : Cx Z cc nL own) : (zc Z).maxLocals = nL := C.2.2.1
theorem Cx.ow (C : Cx Z cc nL own) : (zs Z).vm.findClass own = some (zm Z).cls := C.2.2.2.1
theorem Cx.lk (C : Cx Z cc nL own) : (zh Z).locks = false := C.2.2.2.2.1
theorem Cx.kk (C : Cx Z cc nL own) : KK (zG Z) (zs Z) := C.2.2.2.2.2.1
theorem Cx.ts (C : Cx Z cc nL own) : ∀ w ∈ LT, w.before (za Z) (zs Z) = true := TB.use C.kk.2.1 _
theorem Cx.K (C : Cx Z cc nL own) : va_K (Dg (zG Z)) vwCl (tysG (zG Z)) (zs Z) := C.kk.1
theorem Cx.hc (C : Cx Z cc nL own) : Z.2.2.1 ≤ (zR Z).cells := C.2.2.2.2.2.2.1
theorem Cx.hs (C : Cx Z cc nL own) : Z.2.2.2.1 ≤ (zR Z).slots := C.2.2.2.2.2.2.2
end CxS
section ROWS
variable {Z : Zx} {cc : ByteArray} {nL : Nat} {own : String} {R : Type} {K : R → Prop} {e : Option R} {I : Mem} {pc q : Nat} {L : List (Option Value)} {st : List Value}
theorem w_iconst (C : Cx Z cc nL own) {n : Int} {v : Int32} (d : decode cc pc = .ok (.iconst n, 1)) (hv : Int32.ofInt n = v) (hq : pc + 1 = q) (k : WF Z K e I q L (.int v :: st)) : WF Z K e I pc L st :=
  fun x hx hk H locs ls hR hS hL => lv_iconst C.x C.b d hv (hq ▸ k x hx hk H locs ls hR hS hL)
theorem w_bipush (C : Cx Z cc nL own) {n : Int} {v : Int32} (d : decode cc pc = .ok (.bipush n, 2)) (hv : (Int8.ofInt n).toInt32 = v) (hq : pc + 2 = q) (k : WF Z K e I q L (.int v :: st)) : WF Z K e I pc L st :=
  fun x hx hk H locs ls hR hS hL => lv_bipush C.x C.b d hv (hq ▸ k x hx hk H locs ls hR hS hL)
theorem w_sipush (C : Cx Z cc nL own) {n : Int} {v : Int32} (d : decode cc pc = .ok (.sipush n, 3)) (hv : (Int16.ofInt n).toInt32 = v) (hq : pc + 3 = q) (k : WF Z K e I q L (.int v :: st)) : WF Z K e I pc L st :=
  fun x hx hk H locs ls hR hS hL => lv_sipush C.x C.b d hv (hq ▸ k x hx hk H locs ls hR hS hL)
theorem w_iload_n (C : Cx Z cc nL own) {n : Fin 4} {v : Int32} (d : decode cc pc = .ok (.iload_n n, 1)) (hl : L[(n : Nat)]? = some (some (.int v))) (hq : pc + 1 = q) (k : WF Z K e I q L (.int v :: st)) : WF Z K e I pc L st :=
  fun x hx hk H locs ls hR hS hL => lv_iload_n C.x C.b d rfl (hL.get hl) (hq ▸ k x hx hk H locs ls hR hS hL)
theorem w_iload (C : Cx Z cc nL own) {n : Nat} {v : Int32} (d : decode cc pc = .ok (.iload n, 2)) (hl : L[n]? = some (some (.int v))) (hq : pc + 2 = q) (k : WF Z K e I q L (.int v :: st)) : WF Z K e I pc L st :=
  fun x hx hk H locs ls hR hS hL => lv_iload C.x C.b d (hL.get hl) (hq ▸ k x hx hk H locs ls hR hS hL)
theorem w_aload_n (C : Cx Z cc nL own) {n : Fin 4} {v : Nat} (d : decode cc pc = .ok (.aload_n n, 1)) (hl : L[(n : Nat)]? = some (some (rf (zG Z) v))) (hq : pc + 1 = q) (k : WF Z K e I q L (rf (zG Z) v :: st)) : WF Z K e I pc L st :=
  fun x hx hk H locs ls hR hS hL => lv_aload_n C.x C.b d rfl (hL.get hl) (hq ▸ k x hx hk H locs ls hR hS hL)
theorem w_aload (C : Cx Z cc nL own) {n : Nat} {v : Nat} (d : decode cc pc = .ok (.aload n, 2)) (hl : L[n]? = some (some (rf (zG Z) v))) (hq : pc + 2 = q) (k : WF Z K e I q L (rf (zG Z) v :: st)) : WF Z K e I pc L st :=
  fun x hx hk H locs ls hR hS hL => lv_aload C.x C.b d (hL.get hl) (hq ▸ k x hx hk H locs ls hR hS hL)
theorem w_istore_n (C : Cx Z cc nL own) {n : Fin 4} {v : Int32} {L' : List (Option Value)} (d : decode cc pc = .ok (.istore_n n, 1)) (hn : (n : Nat) < L.length) (hl : L.set n (some (.int v)) = L') (hq : pc + 1 = q) (k : WF Z K e I q L' st) : WF Z K e I pc L (.int v :: st) :=
  fun x hx hk H locs ls hR hS hL => lv_istore_n C.x C.b d rfl hL.has hn rfl (fun ls' h' => hq ▸ k x hx hk H locs ls' hR hS (hl ▸ hasL.of hn rfl hL.cat h'))
theorem w_istore (C : Cx Z cc nL own) {n : Nat} {v : Int32} {L' : List (Option Value)} (d : decode cc pc = .ok (.istore n, 2)) (hn : n < L.length) (hl : L.set n (some (.int v)) = L') (hq : pc + 2 = q) (k : WF Z K e I q L' st) : WF Z K e I pc L (.int v :: st) :=
  fun x hx hk H locs ls hR hS hL => lv_istore C.x C.b d hL.has hn rfl (fun ls' h' => hq ▸ k x hx hk H locs ls' hR hS (hl ▸ hasL.of hn rfl hL.cat h'))
theorem w_astore_n (C : Cx Z cc nL own) {n : Fin 4} {v : Nat} {L' : List (Option Value)} (d : decode cc pc = .ok (.astore_n n, 1)) (hn : (n : Nat) < L.length) (hl : L.set n (some (rf (zG Z) v)) = L') (hq : pc + 1 = q) (k : WF Z K e I q L' st) : WF Z K e I pc L (rf (zG Z) v :: st) :=
  fun x hx hk H locs ls hR hS hL => lv_astore_n C.x C.b d rfl hL.has hn rfl (fun ls' h' => hq ▸ k x hx hk H locs ls' hR hS (hl ▸ hasL.of (v := rf (zG Z) v) hn rfl hL.cat h'))
theorem w_astore (C : Cx Z cc nL own) {n : Nat} {v : Nat} {L' : List (Option Value)} (d : decode cc pc = .ok (.astore n, 2)) (hn : n < L.length) (hl : L.set n (some (rf (zG Z) v)) = L') (hq : pc + 2 = q) (k : WF Z K e I q L' st) : WF Z K e I pc L (rf (zG Z) v :: st) :=
  fun x hx hk H locs ls hR hS hL => lv_astore C.x C.b d hL.has hn rfl (fun ls' h' => hq ▸ k x hx hk H locs ls' hR hS (hl ▸ hasL.of (v := rf (zG Z) v) hn rfl hL.cat h'))
theorem w_iinc (C : Cx Z cc nL own) {n : Nat} {a : Int} {x0 v : Int32} {L' : List (Option Value)} (d : decode cc pc = .ok (.iinc n a, 3)) (h0 : L[n]? = some (some (.int x0))) (hv : x0 + Int32.ofInt a = v) (hl : L.set n (some (.int v)) = L') (hq : pc + 3 = q) (k : WF Z K e I q L' st) : WF Z K e I pc L st := by
  intro x hx hk H locs ls hR hS hL
  have hn : n < L.length := (List.getElem?_eq_some_iff.mp h0).1
  obtain ⟨i, hi⟩ := List.getElem?_of_mem (enL_mem (q := (n, Value.int x0)).mpr h0)
  exact lv_iinc C.x C.b d hL.has hi hv hn rfl (fun ls' h' => hq ▸ k x hx hk H locs ls' hR hS (hl ▸ hasL.of hn rfl hL.cat h'))
theorem w_iadd (C : Cx Z cc nL own) {x y : Int32} (d : decode cc pc = .ok (.iadd, 1)) (hq : pc + 1 = q) (k : WF Z K e I q L (.int (x + y) :: st)) : WF Z K e I pc L (.int y :: .int x :: st) :=
  fun r hr hk H locs ls hR hS hL => lv_iadd C.x C.b d (hq ▸ k r hr hk H locs ls hR hS hL)
theorem w_isub (C : Cx Z cc nL own) {x y : Int32} (d : decode cc pc = .ok (.isub, 1)) (hq : pc + 1 = q) (k : WF Z K e I q L (.int (x - y) :: st)) : WF Z K e I pc L (.int y :: .int x :: st) :=
  fun r hr hk H locs ls hR hS hL => lv_isub C.x C.b d (hq ▸ k r hr hk H locs ls hR hS hL)
theorem w_imul (C : Cx Z cc nL own) {x y : Int32} (d : decode cc pc = .ok (.imul, 1)) (hq : pc + 1 = q) (k : WF Z K e I q L (.int (x * y) :: st)) : WF Z K e I pc L (.int y :: .int x :: st) :=
  fun r hr hk H locs ls hR hS hL => lv_imul C.x C.b d (hq ▸ k r hr hk H locs ls hR hS hL)
theorem w_iand (C : Cx Z cc nL own) {x y : Int32} (d : decode cc pc = .ok (.iand, 1)) (hq : pc + 1 = q) (k : WF Z K e I q L (.int (x &&& y) :: st)) : WF Z K e I pc L (.int y :: .int x :: st) :=
  fun r hr hk H locs ls hR hS hL => lv_iand C.x C.b d (hq ▸ k r hr hk H locs ls hR hS hL)
theorem w_ior (C : Cx Z cc nL own) {x y : Int32} (d : decode cc pc = .ok (.ior, 1)) (hq : pc + 1 = q) (k : WF Z K e I q L (.int (x ||| y) :: st)) : WF Z K e I pc L (.int y :: .int x :: st) :=
  fun r hr hk H locs ls hR hS hL => lv_ior C.x C.b d (hq ▸ k r hr hk H locs ls hR hS hL)
theorem w_ishl (C : Cx Z cc nL own) {x y : Int32} (d : decode cc pc = .ok (.ishl, 1)) (hq : pc + 1 = q) (k : WF Z K e I q L (.int (x <<< (y &&& 31)) :: st)) : WF Z K e I pc L (.int y :: .int x :: st) :=
  fun r hr hk H locs ls hR hS hL => lv_ishl C.x C.b d (hq ▸ k r hr hk H locs ls hR hS hL)
theorem w_ishr (C : Cx Z cc nL own) {x y : Int32} (d : decode cc pc = .ok (.ishr, 1)) (hq : pc + 1 = q) (k : WF Z K e I q L (.int (x >>> (y &&& 31)) :: st)) : WF Z K e I pc L (.int y :: .int x :: st) :=
  fun r hr hk H locs ls hR hS hL => lv_ishr C.x C.b d (hq ▸ k r hr hk H locs ls hR hS hL)
theorem w_idiv (C : Cx Z cc nL own) {x y : Int32} (d : decode cc pc = .ok (.idiv, 1)) (hq : pc + 1 = q) (k : WF Z K e I q L (.int (x / y) :: st)) : WF Z K (gd (decide (¬ y = 0)) e) I pc L (.int y :: .int x :: st) := by
  intro r hr hk H locs ls hR hS hL
  by_cases h : y = 0
  · simp [h, gd] at hr
  · have hr' : e = some r := by simpa [h, gd] using hr
    exact lv_idiv C.x C.b d h (hq ▸ k r hr' hk H locs ls hR hS hL)
theorem w_irem (C : Cx Z cc nL own) {x y : Int32} (d : decode cc pc = .ok (.irem, 1)) (hq : pc + 1 = q) (k : WF Z K e I q L (.int (x - x / y * y) :: st)) : WF Z K (gd (decide (¬ y = 0)) e) I pc L (.int y :: .int x :: st) := by
  intro r hr hk H locs ls hR hS hL
  by_cases h : y = 0
  · simp [h, gd] at hr
  · have hr' : e = some r := by simpa [h, gd] using hr
    exact lv_irem C.x C.b d h (hq ▸ k r hr' hk H locs ls hR hS hL)
theorem w_i2c (C : Cx Z cc nL own) {x : Int32} (d : decode cc pc = .ok (.i2c, 1)) (hq : pc + 1 = q) (k : WF Z K e I q L (.int ((x.toUInt32 % 65536).toInt32) :: st)) : WF Z K e I pc L (.int x :: st) :=
  fun r hr hk H locs ls hR hS hL => lv_i2c C.x C.b d rfl (hq ▸ k r hr hk H locs ls hR hS hL)
theorem w_i2l (C : Cx Z cc nL own) {x : Int32} (d : decode cc pc = .ok (.i2l, 1)) (hq : pc + 1 = q) (k : WF Z K e I q L (.long x.toInt64 :: st)) : WF Z K e I pc L (.int x :: st) :=
  fun r hr hk H locs ls hR hS hL => lv_i2l C.x C.b d rfl (hq ▸ k r hr hk H locs ls hR hS hL)
theorem w_lcmp (C : Cx Z cc nL own) {x y : Int64} (d : decode cc pc = .ok (.lcmp, 1)) (hq : pc + 1 = q) (k : WF Z K e I q L (.int (lg_cmp x y) :: st)) : WF Z K e I pc L (.long y :: .long x :: st) :=
  fun r hr hk H locs ls hR hS hL => W.lcmp C.x C.b d (hq ▸ k r hr hk H locs ls hR hS hL)
theorem w_dup (C : Cx Z cc nL own) {v : Value} (d : decode cc pc = .ok (.dup, 1)) (hc : v.category = 1) (hq : pc + 1 = q) (k : WF Z K e I q L (v :: v :: st)) : WF Z K e I pc L (v :: st) :=
  fun r hr hk H locs ls hR hS hL => lv_dup C.x C.b d hc (hq ▸ k r hr hk H locs ls hR hS hL)
theorem w_pop (C : Cx Z cc nL own) {v : Value} (d : decode cc pc = .ok (.pop, 1)) (hc : v.category = 1) (hq : pc + 1 = q) (k : WF Z K e I q L st) : WF Z K e I pc L (v :: st) :=
  fun r hr hk H locs ls hR hS hL => lv_pop C.x C.b d hc (hq ▸ k r hr hk H locs ls hR hS hL)
theorem w_dup2 (C : Cx Z cc nL own) {v w : Value} (d : decode cc pc = .ok (.dup2, 1)) (hv : v.category = 1) (hw : w.category = 1) (hq : pc + 1 = q) (k : WF Z K e I q L (v :: w :: v :: w :: st)) : WF Z K e I pc L (v :: w :: st) :=
  fun r hr hk H locs ls hR hS hL => lv_dup2_11 C.x C.b d hv hw (hq ▸ k r hr hk H locs ls hR hS hL)
theorem w_goto (C : Cx Z cc nL own) {off : Int} {tgt : Nat} (d : decode cc pc = .ok (.goto off, 3)) (ht : (pc : Int) + off = (tgt : Int)) (k : WF Z K e I tgt L st) : WF Z K e I pc L st :=
  fun r hr hk H locs ls hR hS hL => lv_goto C.x C.b d ht (k r hr hk H locs ls hR hS hL)
theorem w_if_eq (C : Cx Z cc nL own) {x : Int32} {off : Int} {tgt : Nat} {e1 e2 : Option R} {i0 : Decidable (x = 0)} (d : decode cc pc = .ok (.ifCond .eq off, 3)) (ht : (pc : Int) + off = (tgt : Int)) (hq : pc + 3 = q) (kt : x = 0 → WF Z K e1 I tgt L st) (kf : ¬ (x = 0) → WF Z K e2 I q L st) : WF Z K (@ite _ (x = 0) i0 e1 e2) I pc L (.int x :: st) :=
  fun r hr hk H locs ls hR hS hL => lv_if_eq C.x C.b d ht (fun c => kt c r (by rw [if_pos c] at hr; exact hr) hk H locs ls hR hS hL) (fun c => hq ▸ kf c r (by rw [if_neg c] at hr; exact hr) hk H locs ls hR hS hL)
theorem w_icmp_eq (C : Cx Z cc nL own) {x y : Int32} {off : Int} {tgt : Nat} {e1 e2 : Option R} {i0 : Decidable (x = y)} (d : decode cc pc = .ok (.if_icmp .eq off, 3)) (ht : (pc : Int) + off = (tgt : Int)) (hq : pc + 3 = q) (kt : x = y → WF Z K e1 I tgt L st) (kf : ¬ (x = y) → WF Z K e2 I q L st) : WF Z K (@ite _ (x = y) i0 e1 e2) I pc L (.int y :: .int x :: st) :=
  fun r hr hk H locs ls hR hS hL => lv_icmp_eq C.x C.b d ht (fun c => kt c r (by rw [if_pos c] at hr; exact hr) hk H locs ls hR hS hL) (fun c => hq ▸ kf c r (by rw [if_neg c] at hr; exact hr) hk H locs ls hR hS hL)
theorem w_if_ne (C : Cx Z cc nL own) {x : Int32} {off : Int} {tgt : Nat} {e1 e2 : Option R} {i0 : Decidable (x = 0)} (d : decode cc pc = .ok (.ifCond .ne off, 3)) (ht : (pc : Int) + off = (tgt : Int)) (hq : pc + 3 = q) (kf : x = 0 → WF Z K e1 I q L st) (kt : ¬ x = 0 → WF Z K e2 I tgt L st) : WF Z K (@ite _ (x = 0) i0 e1 e2) I pc L (.int x :: st) :=
  fun r hr hk H locs ls hR hS hL => lv_if_ne C.x C.b d ht (fun c => kt c r (by rw [if_neg c] at hr; exact hr) hk H locs ls hR hS hL) (fun c => hq ▸ kf c r (by rw [if_pos c] at hr; exact hr) hk H locs ls hR hS hL)
theorem w_icmp_ne (C : Cx Z cc nL own) {x y : Int32} {off : Int} {tgt : Nat} {e1 e2 : Option R} {i0 : Decidable (x = y)} (d : decode cc pc = .ok (.if_icmp .ne off, 3)) (ht : (pc : Int) + off = (tgt : Int)) (hq : pc + 3 = q) (kf : x = y → WF Z K e1 I q L st) (kt : ¬ x = y → WF Z K e2 I tgt L st) : WF Z K (@ite _ (x = y) i0 e1 e2) I pc L (.int y :: .int x :: st) :=
  fun r hr hk H locs ls hR hS hL => lv_icmp_ne C.x C.b d ht (fun c => kt c r (by rw [if_neg c] at hr; exact hr) hk H locs ls hR hS hL) (fun c => hq ▸ kf c r (by rw [if_pos c] at hr; exact hr) hk H locs ls hR hS hL)
theorem w_if_lt (C : Cx Z cc nL own) {x : Int32} {off : Int} {tgt : Nat} {e1 e2 : Option R} {i0 : Decidable (x < 0)} (d : decode cc pc = .ok (.ifCond .lt off, 3)) (ht : (pc : Int) + off = (tgt : Int)) (hq : pc + 3 = q) (kt : x < 0 → WF Z K e1 I tgt L st) (kf : ¬ (x < 0) → WF Z K e2 I q L st) : WF Z K (@ite _ (x < 0) i0 e1 e2) I pc L (.int x :: st) :=
  fun r hr hk H locs ls hR hS hL => lv_if_lt C.x C.b d ht (fun c => kt c r (by rw [if_pos c] at hr; exact hr) hk H locs ls hR hS hL) (fun c => hq ▸ kf c r (by rw [if_neg c] at hr; exact hr) hk H locs ls hR hS hL)
theorem w_icmp_lt (C : Cx Z cc nL own) {x y : Int32} {off : Int} {tgt : Nat} {e1 e2 : Option R} {i0 : Decidable (x < y)} (d : decode cc pc = .ok (.if_icmp .lt off, 3)) (ht : (pc : Int) + off = (tgt : Int)) (hq : pc + 3 = q) (kt : x < y → WF Z K e1 I tgt L st) (kf : ¬ (x < y) → WF Z K e2 I q L st) : WF Z K (@ite _ (x < y) i0 e1 e2) I pc L (.int y :: .int x :: st) :=
  fun r hr hk H locs ls hR hS hL => lv_icmp_lt C.x C.b d ht (fun c => kt c r (by rw [if_pos c] at hr; exact hr) hk H locs ls hR hS hL) (fun c => hq ▸ kf c r (by rw [if_neg c] at hr; exact hr) hk H locs ls hR hS hL)
theorem w_if_ge (C : Cx Z cc nL own) {x : Int32} {off : Int} {tgt : Nat} {e1 e2 : Option R} {i0 : Decidable (0 ≤ x)} (d : decode cc pc = .ok (.ifCond .ge off, 3)) (ht : (pc : Int) + off = (tgt : Int)) (hq : pc + 3 = q) (kt : 0 ≤ x → WF Z K e1 I tgt L st) (kf : ¬ (0 ≤ x) → WF Z K e2 I q L st) : WF Z K (@ite _ (0 ≤ x) i0 e1 e2) I pc L (.int x :: st) :=
  fun r hr hk H locs ls hR hS hL => lv_if_ge C.x C.b d ht (fun c => kt c r (by rw [if_pos c] at hr; exact hr) hk H locs ls hR hS hL) (fun c => hq ▸ kf c r (by rw [if_neg c] at hr; exact hr) hk H locs ls hR hS hL)
theorem w_icmp_ge (C : Cx Z cc nL own) {x y : Int32} {off : Int} {tgt : Nat} {e1 e2 : Option R} {i0 : Decidable (y ≤ x)} (d : decode cc pc = .ok (.if_icmp .ge off, 3)) (ht : (pc : Int) + off = (tgt : Int)) (hq : pc + 3 = q) (kt : y ≤ x → WF Z K e1 I tgt L st) (kf : ¬ (y ≤ x) → WF Z K e2 I q L st) : WF Z K (@ite _ (y ≤ x) i0 e1 e2) I pc L (.int y :: .int x :: st) :=
  fun r hr hk H locs ls hR hS hL => lv_icmp_ge C.x C.b d ht (fun c => kt c r (by rw [if_pos c] at hr; exact hr) hk H locs ls hR hS hL) (fun c => hq ▸ kf c r (by rw [if_neg c] at hr; exact hr) hk H locs ls hR hS hL)
theorem w_if_gt (C : Cx Z cc nL own) {x : Int32} {off : Int} {tgt : Nat} {e1 e2 : Option R} {i0 : Decidable (0 < x)} (d : decode cc pc = .ok (.ifCond .gt off, 3)) (ht : (pc : Int) + off = (tgt : Int)) (hq : pc + 3 = q) (kt : 0 < x → WF Z K e1 I tgt L st) (kf : ¬ (0 < x) → WF Z K e2 I q L st) : WF Z K (@ite _ (0 < x) i0 e1 e2) I pc L (.int x :: st) :=
  fun r hr hk H locs ls hR hS hL => lv_if_gt C.x C.b d ht (fun c => kt c r (by rw [if_pos c] at hr; exact hr) hk H locs ls hR hS hL) (fun c => hq ▸ kf c r (by rw [if_neg c] at hr; exact hr) hk H locs ls hR hS hL)
theorem w_icmp_gt (C : Cx Z cc nL own) {x y : Int32} {off : Int} {tgt : Nat} {e1 e2 : Option R} {i0 : Decidable (y < x)} (d : decode cc pc = .ok (.if_icmp .gt off, 3)) (ht : (pc : Int) + off = (tgt : Int)) (hq : pc + 3 = q) (kt : y < x → WF Z K e1 I tgt L st) (kf : ¬ (y < x) → WF Z K e2 I q L st) : WF Z K (@ite _ (y < x) i0 e1 e2) I pc L (.int y :: .int x :: st) :=
  fun r hr hk H locs ls hR hS hL => lv_icmp_gt C.x C.b d ht (fun c => kt c r (by rw [if_pos c] at hr; exact hr) hk H locs ls hR hS hL) (fun c => hq ▸ kf c r (by rw [if_neg c] at hr; exact hr) hk H locs ls hR hS hL)
theorem w_if_le (C : Cx Z cc nL own) {x : Int32} {off : Int} {tgt : Nat} {e1 e2 : Option R} {i0 : Decidable (x ≤ 0)} (d : decode cc pc = .ok (.ifCond .le off, 3)) (ht : (pc : Int) + off = (tgt : Int)) (hq : pc + 3 = q) (kt : x ≤ 0 → WF Z K e1 I tgt L st) (kf : ¬ (x ≤ 0) → WF Z K e2 I q L st) : WF Z K (@ite _ (x ≤ 0) i0 e1 e2) I pc L (.int x :: st) :=
  fun r hr hk H locs ls hR hS hL => lv_if_le C.x C.b d ht (fun c => kt c r (by rw [if_pos c] at hr; exact hr) hk H locs ls hR hS hL) (fun c => hq ▸ kf c r (by rw [if_neg c] at hr; exact hr) hk H locs ls hR hS hL)
theorem w_icmp_le (C : Cx Z cc nL own) {x y : Int32} {off : Int} {tgt : Nat} {e1 e2 : Option R} {i0 : Decidable (x ≤ y)} (d : decode cc pc = .ok (.if_icmp .le off, 3)) (ht : (pc : Int) + off = (tgt : Int)) (hq : pc + 3 = q) (kt : x ≤ y → WF Z K e1 I tgt L st) (kf : ¬ (x ≤ y) → WF Z K e2 I q L st) : WF Z K (@ite _ (x ≤ y) i0 e1 e2) I pc L (.int y :: .int x :: st) :=
  fun r hr hk H locs ls hR hS hL => lv_icmp_le C.x C.b d ht (fun c => kt c r (by rw [if_pos c] at hr; exact hr) hk H locs ls hR hS hL) (fun c => hq ▸ kf c r (by rw [if_neg c] at hr; exact hr) hk H locs ls hR hS hL)
end ROWS
end
section
/-! rows over the persistent objects -/
def okc (v : Int32) : Bool := decide (0 ≤ v ∧ v ≤ 65535)
def okz (v : Int32) : Bool := decide (v = 0 ∨ v = 1)
theorem okc_nI {v : Int32} (h : okc v = true) : ∃ n : Nat, n < 65536 ∧ v = nI n := by
  simp only [okc, decide_eq_true_eq] at h
  obtain ⟨j, h1, h2⟩ := nI_of2 (M := 65535) (n := 65535) (by decide) (x := v) (by rw [Int32.not_lt]; exact h.1) h.2
  exact ⟨j, by omega, h2⟩
theorem okc_n {v : Int32} (h : okc v = true) : narrow .char (.int v) = .int v ∧ fits .char (.int v) = true := by
  obtain ⟨n, h1, rfl⟩ := okc_nI h
  exact pk_charN h1
theorem okz_n {v : Int32} (h : okz v = true) : narrow .boolean (.int v) = .int v ∧ fits .boolean (.int v) = true := by
  simp only [okz, decide_eq_true_eq] at h
  rcases h with rfl | rfl <;> exact ⟨by decide, by decide⟩
theorem okc_v {v : Int32} (h : okc v = true) : vp_nar .char v = v := by
  have := (okc_n h).1
  exact Value.int.inj this
theorem okz_v {v : Int32} (h : okz v = true) : vp_nar .boolean v = v := by
  have := (okz_n h).1
  exact Value.int.inj this
theorem gd_some {R : Type} {b : Bool} {e : Option R} {x : R} (h : gd b e = some x) : b = true ∧ e = some x := by
  cases b with
  | true => exact ⟨rfl, h⟩
  | false => cases h
section HR
variable {Z : Zx} {cc : ByteArray} {nL : Nat} {own : String} {R : Type} {K : R → Prop} {e : Option R} {I : Mem} {pc q : Nat} {L : List (Option Value)} {st : List Value}
theorem w_get (C : Cx Z cc nL own) {Cn : String} {T : u_T} {N ci idx k j : Nat} {v : Value} (hin : ∀ w ∈ u_ws Cn T N, w ∈ LT) (hc : vwCl[ci]? = some (Cn, T, N)) (hk : isO k ci) (hj : j < nf ci) (hN : j < N)
    (lnk : Cond.fieldLink own idx (T j).1 (T j).2.1 (T j).2.2.1 ∈ LT) (hv : fV (zG Z) (I k) ci k j = v) (d : decode cc pc = .ok (.getfield idx, 3)) (hq : pc + 3 = q) (kk : WF Z K e I q L (v :: st)) : WF Z K e I pc L (rf (zG Z) k :: st) :=
  fun x hx hx2 H locs ls hR hS hL => va_get (D := Dg (zG Z)) C.x C.b C.ts hin C.ow C.K hR k (by rw [wd_get hk.1, cell_O hk]) hc j hN (C.ts _ lnk) (fun _ h => h) (by rw [fs_get hj, hv]) d (hq ▸ kk x hx hx2 H locs ls hR hS hL)
theorem w_getN (C : Cx Z cc nL own) {Cn host : String} {T : u_T} {N ci idx k j : Nat} {v : Value} (hin : ∀ w ∈ u_ws Cn T N, w ∈ LT) (hc : vwCl[ci]? = some (Cn, T, N)) (hk : isO k ci) (hj : j < nf ci) (hN : j < N)
    (lnk : Cond.fieldLinkNest own idx (T j).1 (T j).2.1 (T j).2.2.1 host ∈ LT) (hv : fV (zG Z) (I k) ci k j = v) (d : decode cc pc = .ok (.getfield idx, 3)) (hq : pc + 3 = q) (kk : WF Z K e I q L (v :: st)) : WF Z K e I pc L (rf (zG Z) k :: st) :=
  fun x hx hx2 H locs ls hR hS hL => va_getN (D := Dg (zG Z)) C.x C.b C.ts hin C.ow C.K hR k (by rw [wd_get hk.1, cell_O hk]) hc j hN (C.ts _ lnk) (fun _ h => h) (by rw [fs_get hj, hv]) d (hq ▸ kk x hx hx2 H locs ls hR hS hL)
theorem fV_i {G : Gx} {row : Nat → Int32} {ci k j : Nat} (h : fk ci j = 0) : fV G row ci k j = .int (row j) := by simp only [fV, h]
theorem fV_r {G : Gx} {row : Nat → Int32} {ci k j t : Nat} (h : fk ci j = 1) (ht : tgt k j = t) : fV G row ci k j = rf G t := by simp only [fV, h, ht]; rfl
theorem fV_m {G : Gx} {row : Nat → Int32} {ci k j : Nat} (h : fk ci j = 2) : fV G row ci k j = rf G (row j).toNatClampNeg := by simp only [fV, h]; rfl
/-- a putfield: the memory behind it is bound to a name -/
theorem w_put (C : Cx Z cc nL own) {Cn : String} {T : u_T} {N ci idx k j : Nat} {ty0 : Nat → FieldType} {ty : FieldType} {v : Value} {z : Int32} {f : Mem → Option R} (hin : ∀ w ∈ u_ws Cn T N, w ∈ LT) (hty : ∀ k, k < N → parseFieldDescriptor (T k).2.2.1 = some (ty0 k)) (hnm : ∀ a, a < N → ∀ b, b < N → a ≠ b → (T a).2.1 ≠ (T b).2.1)
    (hc : vwCl[ci]? = some (Cn, T, N)) (hk : isO k ci) (hj : j < nf ci) (hN : j < N) (lnk : Cond.fieldLink own idx (T j).1 (T j).2.1 (T j).2.2.1 ∈ LT) (hfin : (T j).2.2.2 = false) (hd : parseFieldDescriptor (T j).2.2.1 = some ty)
    (hn : narrow ty v = v) (hft : fits ty v = true) (hv : ∀ row : Nat → Int32, row j = z → fV (zG Z) row ci k j = v) (d : decode cc pc = .ok (.putfield idx, 3)) (hq : pc + 3 = q) (kk : ∀ I' : Mem, WF Z K (f I') I' q L st) : WF Z K (bnd (ms I k j z) f) I pc L (v :: rf (zG Z) k :: st) :=
  fun x hx hx2 H locs ls hR hS hL => va_put (D := Dg (zG Z)) C.x C.b C.ts hin ty0 hty hnm C.ow C.K hR wd_apart hS k (by rw [wd_get hk.1, cell_O hk]) hc j hN (C.ts _ lnk) (fun _ h => h) hfin hd hn hft (by rw [List.length_map, List.length_range]; exact hj) d
    (fun H1 locs1 hP1 _ hS1 => hq ▸ kk (ms I k j z) x hx hx2 H1 locs1 ls (by
      have e1 : (wd (zG Z) I).set k ((zG Z).1 + k, Sum.inr (ci, ((List.range (nf ci)).map (fV (zG Z) (I k) ci k)).set j v)) = wd (zG Z) (ms I k j z) :=
        wd_set hk.1 (by rw [cell_O hk, ms_row, fs_set (v := z) (hv (upd (I k) j z) (by simp [upd]))]) (fun a ha => ms_ne ha)
      rw [e1] at hP1
      exact hP1) hS1 hL)
theorem w_iald (C : Cx Z cc nL own) {k n : Nat} {i : Int32} (hk : isA k 0 n) (d : decode cc pc = .ok (.iaload, 1)) (hq : pc + 1 = q) (kk : inb i n = true → WF Z K e I q L (.int (I k i.toNatClampNeg) :: st)) : WF Z K (gd (inb i n) e) I pc L (.int i :: rf (zG Z) k :: st) :=
  fun x hx hx2 H locs ls hR hS hL => va_iald (D := Dg (zG Z)) (cl := vwCl) (tys := tysG (zG Z)) (cA := (zG Z).2.2.2 0) (n := n) (f := I k) C.x C.b C.K hR k 0 (by rw [wd_get hk.1]; simp only [cellR, hk.2]) rfl (inb_in (gd_some hx).1) d (hq ▸ kk (gd_some hx).1 x (gd_some hx).2 hx2 H locs ls hR hS hL)
theorem w_cald (C : Cx Z cc nL own) {k n : Nat} {i : Int32} (hk : isA k 1 n) (d : decode cc pc = .ok (.caload, 1)) (hq : pc + 1 = q) (kk : inb i n = true → WF Z K e I q L (.int (I k i.toNatClampNeg) :: st)) : WF Z K (gd (inb i n) e) I pc L (.int i :: rf (zG Z) k :: st) :=
  fun x hx hx2 H locs ls hR hS hL => va_cald (D := Dg (zG Z)) (cl := vwCl) (tys := tysG (zG Z)) (cA := (zG Z).2.2.2 1) (n := n) (f := I k) C.x C.b C.K hR k 1 (by rw [wd_get hk.1]; simp only [cellR, hk.2]) rfl (inb_in (gd_some hx).1) d (hq ▸ kk (gd_some hx).1 x (gd_some hx).2 hx2 H locs ls hR hS hL)
theorem w_zald (C : Cx Z cc nL own) {k n : Nat} {i : Int32} (hk : isA k 2 n) (d : decode cc pc = .ok (.baload, 1)) (hq : pc + 1 = q) (kk : inb i n = true → WF Z K e I q L (.int (I k i.toNatClampNeg) :: st)) : WF Z K (gd (inb i n) e) I pc L (.int i :: rf (zG Z) k :: st) :=
  fun x hx hx2 H locs ls hR hS hL => va_zald (D := Dg (zG Z)) (cl := vwCl) (tys := tysG (zG Z)) (cA := (zG Z).2.2.2 2) (n := n) (f := I k) C.x C.b C.K hR k 2 (by rw [wd_get hk.1]; simp only [cellR, hk.2]) rfl (inb_in (gd_some hx).1) d (hq ▸ kk (gd_some hx).1 x (gd_some hx).2 hx2 H locs ls hR hS hL)
theorem w_lald (C : Cx Z cc nL own) {k n : Nat} {i : Int32} (hk : isA k 3 n) (d : decode cc pc = .ok (.laload, 1)) (hq : pc + 1 = q) (kk : inb i n = true → WF Z K e I q L (.long (I k i.toNatClampNeg).toInt64 :: st)) : WF Z K (gd (inb i n) e) I pc L (.int i :: rf (zG Z) k :: st) :=
  fun x hx hx2 H locs ls hR hS hL => va_lald (D := Dg (zG Z)) (cl := vwCl) (tys := tysG (zG Z)) (cA := (zG Z).2.2.2 3) (n := n) (f := fun i => (I k i).toInt64) C.x C.b C.K hR k 3 (by rw [wd_get hk.1]; simp only [cellR, hk.2]) rfl (inb_in (gd_some hx).1) d (hq ▸ kk (gd_some hx).1 x (gd_some hx).2 hx2 H locs ls hR hS hL)
/-- a load out of an array of references: its elements stay where the constructors put them -/
theorem w_aald (C : Cx Z cc nL own) {k n t c0 c1 ci : Nat} {Cn : String} {i : Int32} (hk : isA k (t + 4) n) (ht : (tysG (zG Z))[t + 4]? = some ((zG Z).2.2.2 (t + 4), .object Cn)) (el : ∀ a, a < n → tgt k a = k + (c0 + c1 * a) ∧ isO (k + (c0 + c1 * a)) ci)
    (d : decode cc pc = .ok (.aaload, 1)) (hq : pc + 1 = q) (kk : inb i n = true → isO (k + (c0 + c1 * i.toNatClampNeg)) ci → WF Z K e I q L (rf (zG Z) (k + (c0 + c1 * i.toNatClampNeg)) :: st)) : WF Z K (gd (inb i n) e) I pc L (.int i :: rf (zG Z) k :: st) := by
  intro x hx hx2 H locs ls hR hS hL
  have hb := (gd_some hx).1
  have h1 := el _ (inb_lt hb)
  refine va_aldq (D := Dg (zG Z)) (cl := vwCl) (tys := tysG (zG Z)) (cA := (zG Z).2.2.2 (t + 4)) (n := n) (f := fun i => some ((zG Z).1 + tgt k i)) C.x C.b C.K hR k (t + 4) (by rw [wd_get hk.1]; simp only [cellR, hk.2]) ht (inb_in hb) d ?_
  rw [h1.1]
  exact hq ▸ kk hb h1.2 x (gd_some hx).2 hx2 H locs ls hR hS hL
theorem cell_A0 {G : Gx} {row : Nat → Int32} {k n : Nat} (h : isA k 0 n) : cellR G row k = .inl (G.2.2.2 0, n, .inl row) := by simp only [cellR, h.2]
theorem cell_A1 {G : Gx} {row : Nat → Int32} {k n : Nat} (h : isA k 1 n) : cellR G row k = .inl (G.2.2.2 1, n, .inl row) := by simp only [cellR, h.2]
theorem cell_A2 {G : Gx} {row : Nat → Int32} {k n : Nat} (h : isA k 2 n) : cellR G row k = .inl (G.2.2.2 2, n, .inl row) := by simp only [cellR, h.2]
theorem cell_A3 {G : Gx} {row : Nat → Int32} {k n : Nat} (h : isA k 3 n) : cellR G row k = .inl (G.2.2.2 3, n, .inr (.inl (fun i => (row i).toInt64))) := by simp only [cellR, h.2]
theorem w_iast (C : Cx Z cc nL own) {k n : Nat} {i v : Int32} {f : Mem → Option R} (hk : isA k 0 n) (d : decode cc pc = .ok (.iastore, 1)) (hq : pc + 1 = q) (kk : inb i n = true → ∀ I' : Mem, WF Z K (f I') I' q L st) : WF Z K (gd (inb i n) (bnd (ms I k i.toNatClampNeg v) f)) I pc L (.int v :: .int i :: rf (zG Z) k :: st) :=
  fun x hx hx2 H locs ls hR hS hL => va_iast (D := Dg (zG Z)) (cl := vwCl) (tys := tysG (zG Z)) (cA := (zG Z).2.2.2 0) (n := n) (f := I k) C.x C.b C.K hR wd_apart hS k 0 (by rw [wd_get hk.1, cell_A0 hk]) rfl (inb_in (gd_some hx).1) d
    (fun H1 locs1 hP1 _ hS1 => hq ▸ kk (gd_some hx).1 (ms I k i.toNatClampNeg v) x (gd_some hx).2 hx2 H1 locs1 ls (by
      rw [wd_set (I' := ms I k i.toNatClampNeg v) hk.1 (by rw [cell_A0 hk, ms_row]) (fun a ha => ms_ne ha)] at hP1
      exact hP1) hS1 hL)
theorem w_cast (C : Cx Z cc nL own) {k n : Nat} {i v : Int32} {f : Mem → Option R} (hk : isA k 1 n) (d : decode cc pc = .ok (.castore, 1)) (hq : pc + 1 = q) (kk : inb i n = true → ∀ I' : Mem, WF Z K (f I') I' q L st) : WF Z K (gd (inb i n) (gd (okc v) (bnd (ms I k i.toNatClampNeg v) f))) I pc L (.int v :: .int i :: rf (zG Z) k :: st) :=
  fun x hx hx2 H locs ls hR hS hL => va_cast (D := Dg (zG Z)) (cl := vwCl) (tys := tysG (zG Z)) (cA := (zG Z).2.2.2 1) (n := n) (f := I k) C.x C.b C.K hR wd_apart hS k 1 (by rw [wd_get hk.1, cell_A1 hk]) rfl (inb_in (gd_some hx).1) d
    (fun H1 locs1 hP1 _ hS1 => hq ▸ kk (gd_some hx).1 (ms I k i.toNatClampNeg v) x (gd_some (gd_some hx).2).2 hx2 H1 locs1 ls (by
      rw [okc_v (gd_some (gd_some hx).2).1, wd_set (I' := ms I k i.toNatClampNeg v) hk.1 (by rw [cell_A1 hk, ms_row]) (fun a ha => ms_ne ha)] at hP1
      exact hP1) hS1 hL)
theorem w_zast (C : Cx Z cc nL own) {k n : Nat} {i v : Int32} {f : Mem → Option R} (hk : isA k 2 n) (d : decode cc pc = .ok (.bastore, 1)) (hq : pc + 1 = q) (kk : inb i n = true → ∀ I' : Mem, WF Z K (f I') I' q L st) : WF Z K (gd (inb i n) (gd (okz v) (bnd (ms I k i.toNatClampNeg v) f))) I pc L (.int v :: .int i :: rf (zG Z) k :: st) :=
  fun x hx hx2 H locs ls hR hS hL => va_zast (D := Dg (zG Z)) (cl := vwCl) (tys := tysG (zG Z)) (cA := (zG Z).2.2.2 2) (n := n) (f := I k) C.x C.b C.K hR wd_apart hS k 2 (by rw [wd_get hk.1, cell_A2 hk]) rfl (inb_in (gd_some hx).1) d
    (fun H1 locs1 hP1 _ hS1 => hq ▸ kk (gd_some hx).1 (ms I k i.toNatClampNeg v) x (gd_some (gd_some hx).2).2 hx2 H1 locs1 ls (by
      rw [okz_v (gd_some (gd_some hx).2).1, wd_set (I' := ms I k i.toNatClampNeg v) hk.1 (by rw [cell_A2 hk, ms_row]) (fun a ha => ms_ne ha)] at hP1
      exact hP1) hS1 hL)
theorem w_last (C : Cx Z cc nL own) {k n : Nat} {i v : Int32} {f : Mem → Option R} (hk : isA k 3 n) (d : decode cc pc = .ok (.lastore, 1)) (hq : pc + 1 = q) (kk : inb i n = true → ∀ I' : Mem, WF Z K (f I') I' q L st) : WF Z K (gd (inb i n) (bnd (ms I k i.toNatClampNeg v) f)) I pc L (.long v.toInt64 :: .int i :: rf (zG Z) k :: st) :=
  fun x hx hx2 H locs ls hR hS hL => va_last (D := Dg (zG Z)) (cl := vwCl) (tys := tysG (zG Z)) (cA := (zG Z).2.2.2 3) (n := n) (f := fun i => (I k i).toInt64) C.x C.b C.K hR wd_apart hS k 3 (by rw [wd_get hk.1, cell_A3 hk]) rfl (inb_in (gd_some hx).1) d
    (fun H1 locs1 hP1 _ hS1 => hq ▸ kk (gd_some hx).1 (ms I k i.toNatClampNeg v) x (gd_some hx).2 hx2 H1 locs1 ls (by
      rw [wd_set (I' := ms I k i.toNatClampNeg v) hk.1 (by
        rw [cell_A3 hk, ms_row]
        congr 3
        congr 2
        funext a
        simp only [upd, vp_updL]
        split <;> rfl) (fun a ha => ms_ne ha)] at hP1
      exact hP1) hS1 hL)
theorem w_alen (C : Cx Z cc nL own) {k n t : Nat} {ty : FieldType} {v : Int32} (hk : isA k t n) (hty : (tysG (zG Z))[t]? = some ((zG Z).2.2.2 t, ty)) (ht : t < 8) (hv : Int32.ofNat n = v) (d : decode cc pc = .ok (.arraylength, 1)) (hq : pc + 1 = q) (kk : WF Z K e I q L (.int v :: st)) : WF Z K e I pc L (rf (zG Z) k :: st) := by
  intro x hx hx2 H locs ls hR hS hL
  have hcell : ∃ y : vp_A, cellR (zG Z) (I k) k = .inl ((zG Z).2.2.2 t, y) ∧ y.1 = n := by
    rcases (show t = 0 ∨ t = 1 ∨ t = 2 ∨ t = 3 ∨ t = 4 ∨ t = 5 ∨ t = 6 ∨ t = 7 by omega) with rfl | rfl | rfl | rfl | rfl | rfl | rfl | rfl <;> exact ⟨_, by simp only [cellR, hk.2]; rfl, rfl⟩
  obtain ⟨y, h1, h2⟩ := hcell
  exact va_alen (D := Dg (zG Z)) (cl := vwCl) (tys := tysG (zG Z)) C.x C.b C.K hR k t (by rw [wd_get hk.1, h1]) hty (v := v) (by rw [h2]; exact hv) d (hq ▸ kk x hx hx2 H locs ls hR hS hL)
theorem w_gd {b : Bool} (kk : b = true → WF Z K e I pc L st) : WF Z K (gd b e) I pc L st := fun x hx => kk (gd_some hx).1 x (gd_some hx).2
end HR
end
section
/-! contracts over the whole memory; entry, ends, calls -/
def rm0c (fr lo : Nat) : Room := { frames := fr, cells := 0, slots := 0, locals := lo }
def Qct (G : Gx) (rv : Option Value) (I' : Mem) : Array Value → State → Outcome → State → Prop := fun _ st o t => (o = .returned rv ∧ Rep G I' t.heap) ∧ va_F (Ab G) st t
def Ct (l : Launch) (G : Gx) (y : MethodName) (cc : ByteArray) (maxL : Nat) (ret : Option FieldType) (fr lo : Nat) (av : List Value) (I : Mem) (rv : Option Value) (I' : Mem) : Prop :=
  Met l y [.code y cc maxL ret] (rm0c fr lo) (va_Pc av (St G I)) (Qct G rv I') 0 0 (Ab G)
theorem St.blind {G : Gx} {I : Mem} {av : List Value} : FrameBlind (va_Pc av (St G I)) := by
  intro a U g mk h
  obtain ⟨h1, h2, h3⟩ := h
  exact ⟨h1, h2, h3.go (s := U) (locs := []) (State.WarmedH.refl U) va_S.rf rfl⟩
def RM (Z : Zx) (FR LO : Nat) : Prop := (zR Z).frames = FR ∧ (zR Z).locals = LO
/-- the same place with other counts of cells and slots -/
abbrev Zb (Z : Zx) (c n : Nat) : Zx := (Z.1, Z.2.1, c, n, Z.2.2.2.2)
def RetI (Z : Zx) (cc : ByteArray) (ty : FieldType) (v : Int32) (I : Mem) : Prop := ∀ (c n pc : Nat) (L : List (Option Value)), c ≤ (zR Z).cells → n ≤ (zR Z).slots → decode cc pc = .ok (.ireturn, 1) → narrow ty (.int v) = .int v → WM (Zb Z c n) I pc L [.int v]
def RetV (Z : Zx) (cc : ByteArray) (I : Mem) : Prop := ∀ (c n pc : Nat) (L : List (Option Value)), c ≤ (zR Z).cells → n ≤ (zR Z).slots → decode cc pc = .ok (.return_, 1) → WM (Zb Z c n) I pc L []
def RetA (Z : Zx) (cc : ByteArray) (k : Nat) (I : Mem) : Prop := ∀ (c n pc : Nat) (L : List (Option Value)), c ≤ (zR Z).cells → n ≤ (zR Z).slots → decode cc pc = .ok (.areturn, 1) → WM (Zb Z c n) I pc L [rf (zG Z) k]
/-- what a body's end gives, by the kind of its answer -/
def RetOf (Z : Zx) (cc : ByteArray) (ret : Option FieldType) (rv : Option Value) (I : Mem) : Prop := match ret, rv with
  | none, none => RetV Z cc I
  | some ty, some (.int v) => RetI Z cc ty v I
  | some _, some (.ref a) => ∀ k, a = (zG Z).1 + k → RetA Z cc k I
  | _, _ => True
theorem Ct.of {l : Launch} {G : Gx} {y : MethodName} {cc : ByteArray} {maxL : Nat} {ret : Option FieldType} {fr lo : Nat} {av : List Value} {I : Mem} {rv : Option Value} {I' : Mem} (hy : plainName y.cls = true) (hcat : (av.all fun v => v.category == 1) = true) (hlen : av.length ≤ maxL)
    (hret : ∀ ty v, ret = some ty → rv = some v → (∃ x, v = .int x) ∨ ((∃ n, ty = .object n) ∨ ∃ t, ty = .array t))
    (body : ∀ Z : Zx, zG Z = G → zl Z = l → Cx Z cc maxL y.cls → RM Z fr lo → RetOf Z cc ret rv I' → WM Z I 0 (av.map some ++ List.replicate (maxL - av.length) none) []) : Ct l G y cc maxL ret fr lo av I rv I' := by
  have hcat : ∀ v ∈ av, v.category = 1 := fun v hv => by simpa using List.all_eq_true.mp hcat v hv
  refine Met.ofW (cc := cc) (maxL := maxL) (ret := ret) hy rfl ?_
  intro p e s m args below meth c s₁ B hml hv
  obtain ⟨rfl, hR, hKK⟩ := hv
  have hown : s.vm.findClass y.cls = some m.cls := findClass_of_methodNamed B.named
  rw [lg_entry_eq]
  refine body ((p, l, e, _, s, m, av.toArray, below, meth, c), G, 0, 0, MQ below (Qct G rv I') av.toArray s 0 0 (Ab G)) rfl rfl ⟨B.exec, B.bytes, hml, hown, B.notSynchronized, hKK, Nat.zero_le _, Nat.zero_le _⟩ ⟨rfl, rfl⟩ ?_ s.heap [] _ hR va_S.rf (hasL.entry av maxL hcat hlen)
  have hb : c.code = cc := B.bytes
  have hr := B.returns
  have hx := B.exec
  have hlocks := B.notSynchronized
  unfold RetOf
  split
  · next =>
    intro c9 n9 pc L l1 l2 d H locs ls hR hS hL
    obtain rfl : c9 = 0 := Nat.le_zero.mp l1
    obtain rfl : n9 = 0 := Nat.le_zero.mp l2
    exact W.vret hx hb hr (fun t ht hW => ⟨⟨rfl, by rw [ht]; exact hR⟩, hS.F ht⟩) hS.2.2 d
  · next ty v =>
    intro c9 n9 pc L l1 l2 d hn H locs ls hR hS hL
    obtain rfl : c9 = 0 := Nat.le_zero.mp l1
    obtain rfl : n9 = 0 := Nat.le_zero.mp l2
    exact W.zret hx hb hr hn (fun t ht hW => ⟨⟨rfl, by rw [ht]; exact hR⟩, hS.F ht⟩) hS.2.2 d
  · next ty a =>
    intro k hk c9 n9 pc L l1 l2 d H locs ls hR hS hL
    obtain rfl : c9 = 0 := Nat.le_zero.mp l1
    obtain rfl : n9 = 0 := Nat.le_zero.mp l2
    have hk' : a = G.1 + k := hk
    subst hk'
    refine W.aret (rt := ty) hx hb hr ?_ (Or.inr ⟨_, rfl⟩) (fun t ht hW => ⟨⟨rfl, by rw [ht]; exact hR⟩, hS.F ht⟩) hS.2.2 d
    rcases hret ty _ rfl rfl with ⟨x, h⟩ | h
    · cases h
    · exact h
  · trivial
def lessL : List (Option Value) → List (Option Value) → Prop
  | [], [] => True
  | none :: t', _ :: t => lessL t' t
  | some v :: t', w :: t => w = some v ∧ lessL t' t
  | _, _ => False
theorem lessL.to : ∀ {L' L : List (Option Value)}, lessL L' L → L'.length = L.length ∧ ∀ (i : Nat) (v : Value), L'[i]? = some (some v) → L[i]? = some (some v)
  | [], [], _ => ⟨rfl, fun i v h => by simp at h⟩
  | none :: t', w :: t, h => by
    obtain ⟨h1, h2⟩ := lessL.to (L' := t') (L := t) h
    refine ⟨by simp [h1], fun i v hi => ?_⟩
    cases i with
    | zero => simp at hi
    | succ i => simpa using h2 i v (by simpa using hi)
  | some v0 :: t', w :: t, h => by
    obtain ⟨h0, h⟩ := h
    obtain ⟨h1, h2⟩ := lessL.to (L' := t') (L := t) h
    refine ⟨by simp [h1], fun i v hi => ?_⟩
    cases i with
    | zero => simpa [h0] using hi
    | succ i => simpa using h2 i v (by simpa using hi)
  | [], _ :: _, h => h.elim
  | none :: _, [], h => h.elim
  | some _ :: _, [], h => h.elim
section CR
variable {Z : Zx} {cc : ByteArray} {nL : Nat} {own : String} {R : Type} {K : R → Prop} {e : Option R} {I : Mem} {pc q : Nat} {L : List (Option Value)} {st : List Value}
theorem w_iret (C : Cx Z cc nL own) {v : Int32} {x : R} {ty : FieldType} (hK : K x → RetI Z cc ty v I) (hn : narrow ty (.int v) = .int v) (d : decode cc pc = .ok (.ireturn, 1)) : WF Z K (some x) I pc L [.int v] := by
  intro y hy hk
  cases hy
  exact hK hk _ _ pc L C.hc C.hs d hn
theorem w_vret (C : Cx Z cc nL own) {x : R} (hK : K x → RetV Z cc I) (d : decode cc pc = .ok (.return_, 1)) : WF Z K (some x) I pc L [] := by
  intro y hy hk
  cases hy
  exact hK hk _ _ pc L C.hc C.hs d
theorem w_aret (C : Cx Z cc nL own) {k : Nat} {x : R} (hK : K x → RetA Z cc k I) (d : decode cc pc = .ok (.areturn, 1)) : WF Z K (some x) I pc L [rf (zG Z) k] := by
  intro y hy hk
  cases hy
  exact hK hk _ _ pc L C.hc C.hs d
/-- on to a place that is proved already -/
theorem w_jmp {x : R} (hK : K x → WM Z I pc L st) : WF Z K (some x) I pc L st := by
  intro y hy hk
  cases hy
  exact hK hk
theorem WM.less {L' : List (Option Value)} (h : WM Z I pc L' st) (hl : lessL L' L) : WM Z I pc L st :=
  fun H locs ls hR hS hL => h H locs ls hR hS (hL.less hl.to.1 hl.to.2)
theorem WF.less {L' : List (Option Value)} (h : WF Z K e I pc L' st) (hl : lessL L' L) : WF Z K e I pc L st :=
  fun x hx hk => (h x hx hk).less hl
/-- a loop: its body, from the head, comes to the head again or leaves -/
def loopK {α β : Type} (hd : α → Prop) (E : β → Prop) : α ⊕ β → Prop := fun y => match y with
  | .inl a => hd a
  | .inr b => E b
theorem w_loop {α β : Type} {body : α → Option (α ⊕ β)} {hd : α → Prop} {E : β → Prop} (hb : ∀ a y, body a = some y → loopK hd E y → hd a) : ∀ (n : Nat) (a : α) (b : β), loopF body n a = some b → E b → hd a
  | 0, a, b, h, _ => by cases h
  | n + 1, a, b, h, hE => by
    cases hy : body a with
    | none => simp [loopF, hy] at h
    | some y =>
      cases y with
      | inl a' =>
        simp only [loopF, hy] at h
        exact hb a (.inl a') hy (w_loop hb n a' b h hE)
      | inr b' =>
        simp only [loopF, hy, Option.some.injEq] at h
        subst h
        exact hb a (.inr b') hy hE
theorem w_loopF {α β : Type} {body : α → Option (α ⊕ β)} {mem : α → Mem} {lo : α → List (Option Value)} {a : α} {rest : β → Option R} {E : β → Prop} (hb : ∀ a, WF Z (loopK (fun a => WM Z (mem a) pc (lo a) []) E) (body a) (mem a) pc (lo a) [])
    (hx : ∀ b x, rest b = some x → K x → E b) : WF Z K (Option.bind (loopF body FU a) rest) (mem a) pc (lo a) [] := by
  intro x hx1 hk
  obtain ⟨b, h1, h2⟩ := Option.bind_eq_some_iff.mp hx1
  exact w_loop (hd := fun a => WM Z (mem a) pc (lo a) []) (E := E) (fun a y h h' => hb a y h h') FU a b h1 (hx b x h2 hk)
theorem w_idivL (C : Cx Z cc nL own) {x y : Int32} (hne : ¬ y = 0) (d : decode cc pc = .ok (.idiv, 1)) (hq : pc + 1 = q) (k : WF Z K e I q L (.int (x / y) :: st)) : WF Z K e I pc L (.int y :: .int x :: st) :=
  fun r hr hk H locs ls hR hS hL => lv_idiv C.x C.b d hne (hq ▸ k r hr hk H locs ls hR hS hL)
theorem w_iremL (C : Cx Z cc nL own) {x y : Int32} (hne : ¬ y = 0) (d : decode cc pc = .ok (.irem, 1)) (hq : pc + 1 = q) (k : WF Z K e I q L (.int (x - x / y * y) :: st)) : WF Z K e I pc L (.int y :: .int x :: st) :=
  fun r hr hk H locs ls hR hS hL => lv_irem C.x C.b d hne (hq ▸ k r hr hk H locs ls hR hS hL)
theorem w_mmax (C : Cx Z cc nL own) {FR LO : Nat} (hR : RM Z FR LO) {idx : Nat} {x y : Int32} (lnk : Cond.methodLink own idx Lib.Math.max.name ∈ LT) (m1 : Cond.static Lib.Math.max.name ∈ LT) (m2 : Cond.initialized "java/lang/Math" ∈ LT) (m3 : Cond.code Lib.Math.max.name Lib.Math.max.code 2 (some .int) ∈ LT)
    (hfr : 1 ≤ FR) (hlo : (st.map fun v => v.category).sum + 13 ≤ LO) (hL : L.length = nL) (d : decode cc pc = .ok (.invokestatic idx, 3)) (hq : pc + 3 = q) (k : WF Z K e I q L (.int (if x < y then y else x) :: st)) : WF Z K e I pc L (.int y :: .int x :: st) :=
  fun r hr hk H locs ls hRp hS hLs => va_mmax C.x C.b (by rw [C.ml, hLs.1, hL]) C.ow (C.ts _ lnk) (C.ts _ m1) (C.ts _ m2) (C.ts _ m3) (by rw [hR.1]; exact hfr) (by rw [hR.2]; exact hlo) C.hc C.hs d (hq ▸ k r hr hk H locs ls hRp hS hLs)
theorem w_mmin (C : Cx Z cc nL own) {FR LO : Nat} (hR : RM Z FR LO) {idx : Nat} {x y : Int32} (lnk : Cond.methodLink own idx Lib.Math.min.name ∈ LT) (m1 : Cond.static Lib.Math.min.name ∈ LT) (m2 : Cond.initialized "java/lang/Math" ∈ LT) (m3 : Cond.code Lib.Math.min.name Lib.Math.min.code 2 (some .int) ∈ LT)
    (hfr : 1 ≤ FR) (hlo : (st.map fun v => v.category).sum + 13 ≤ LO) (hL : L.length = nL) (d : decode cc pc = .ok (.invokestatic idx, 3)) (hq : pc + 3 = q) (k : WF Z K e I q L (.int (if y < x then y else x) :: st)) : WF Z K e I pc L (.int y :: .int x :: st) :=
  fun r hr hk H locs ls hRp hS hLs => va_mmin C.x C.b (by rw [C.ml, hLs.1, hL]) C.ow (C.ts _ lnk) (C.ts _ m1) (C.ts _ m2) (C.ts _ m3) (by rw [hR.1]; exact hfr) (by rw [hR.2]; exact hlo) C.hc C.hs d (hq ▸ k r hr hk H locs ls hRp hS hLs)
/-! calls -/
abbrev MVp (ci : Nat) (y : MethodName) (bytes : ByteArray) (maxL : Nat) (ret : Option FieldType) (n : Nat) : Prop :=
  (∃ T N, vwCl[ci]? = some (y.cls, T, N)) ∧ Cond.instanceMethod y ∈ LT ∧ Cond.selects y.cls y y ∈ LT ∧ Cond.initialized y.cls ∈ LT ∧ Cond.code y bytes maxL ret ∈ LT ∧
  (y.cls ≠ "java/lang/invoke/MethodHandle" ∧ y.cls ≠ "java/lang/invoke/VarHandle" ∧ (parseMethodDescriptor y.desc).map (fun d => d.parameters.length) = some n)
abbrev MSp (y : MethodName) (bytes : ByteArray) (maxL : Nat) (ret : Option FieldType) (n : Nat) : Prop :=
  Cond.static y ∈ LT ∧ Cond.initialized y.cls ∈ LT ∧ Cond.code y bytes maxL ret ∈ LT ∧
  (y.cls ≠ "java/lang/invoke/MethodHandle" ∧ y.cls ≠ "java/lang/invoke/VarHandle" ∧ (parseMethodDescriptor y.desc).map (fun d => d.parameters.length) = some n)
theorem wm_run {rv : Option Value} {I' : Mem} {H : Heap} {locs : List Loc} {ls : Array Slot} {st0 : List Value} (hS : va_S (Ab (zG Z)) (zs Z).heap H locs) (hL : hasL ls L)
    (hr : va_Run (zp Z) (zl Z) (ze Z) (zR Z) (zs Z) (zm Z) (za Z) (zb Z) (zh Z) (zc Z) H locs Z.2.2.1 Z.2.2.2.1 0 0 (F0 (zm Z) pc ls st0) st (fun st o t => (o = .returned rv ∧ Rep (zG Z) I' t.heap) ∧ va_F (Ab (zG Z)) st t) (Ab (zG Z)))
    (k : WM Z I' (pc + 3) L (rv.toList ++ st)) : WZ Z H locs (F0 (zm Z) pc ls st0) := by
  intro T hT X
  obtain ⟨v, st₀, t, T', Lx, h0, X', hLx, e1, e2, ⟨⟨hv, hst⟩, hF⟩, go⟩ := hr T hT X
  have hv' : v = rv := by injection hv
  subst hv'
  obtain ⟨hz, hk⟩ := hF
  rw [h0] at hz hk
  obtain ⟨t2, a1, b1⟩ := k T'.heap (locs ++ Lx) ls (by rw [e1]; exact hst)
    ⟨Nat.le_trans hS.1 (by rw [e1]; exact hz), fun q h1 h2 => by rw [e1, hk q (Nat.lt_of_lt_of_le h1 hS.1) h2]; exact hS.2.1 q h1 h2, fun q hq => by
      rcases List.mem_append.mp hq with h | h
      · exact hS.2.2 q h
      · exact hLx q h⟩ hL T' rfl X'
  exact ⟨t2, go t2 a1, b1⟩
theorem w_callV (C : Cx Z cc nL own) {FR LO : Nat} (hR : RM Z FR LO) {ci idx maxL fr lo n k : Nat} {y : MethodName} {bytes : ByteArray} {ret : Option FieldType} {As st0 : List Value} {X : Type} {f : Option X} {val : X → Option Value} {mem : X → Mem} {rest : X → Option R}
    (hc : ∀ x, f = some x → Ct (zl Z) (zG Z) y bytes maxL ret fr lo (rf (zG Z) k :: As) I (val x) (mem x)) (hk : isO k ci) (mv : MVp ci y bytes maxL ret n) (lnk : Cond.methodLink own idx y ∈ LT) (hn : As.length = n) (hfr : fr + 1 ≤ FR ∧ 8 + (maxL + 11) + lo ≤ LO)
    {st1 : X → List Value} (hst1 : ∀ x, (val x).toList ++ st = st1 x) (hroom : (st.map fun v => v.category).sum ≤ 8) (hst : st0 = As.reverse ++ rf (zG Z) k :: st) (hL : L.length = nL) (d : decode cc pc = .ok (.invokevirtual idx, 3)) (hq : pc + 3 = q) (kk : ∀ x, WF Z K (rest x) (mem x) q L (st1 x)) : WF Z K (Option.bind f rest) I pc L st0 := by
  intro r hr hkr H locs ls hRp hS hLs
  obtain ⟨x, h1, h2⟩ := Option.bind_eq_some_iff.mp hr
  subst hst
  obtain ⟨⟨T, N, hcl⟩, mi, msel, mini, mcode, md⟩ := mv
  have hts := C.ts
  refine wm_run hS hLs (va_runV (As := As) (rest := st) (C := y.cls) ⟨C.x, C.b, C.ml, C.ow, hts⟩ (hc x h1)
    ⟨callB_of n hts (GoodIn.one mcode rfl) rfl rfl rfl (hts _ mini) (hts _ lnk) md (by rw [hR.1, hR.2]; exact hfr), hts _ mi, hts _ msel⟩
    ⟨St.blind, va_recv C.K hRp hcl (by rw [wd_get hk.1, cell_O hk]), fun U hU hW => ⟨rfl, by rw [hU]; exact hRp, C.kk.go hW hS hU⟩⟩ rfl hn (by rw [hLs.1]; exact hL) rfl (lv_room hroom) d ⟨by have := C.hc; exact this, by have := C.hs; exact this⟩) ?_
  rw [hst1]
  exact hq ▸ kk x r h2 hkr
theorem w_callS (C : Cx Z cc nL own) {FR LO : Nat} (hR : RM Z FR LO) {idx maxL fr lo n : Nat} {y : MethodName} {bytes : ByteArray} {ret : Option FieldType} {As st0 : List Value} {X : Type} {f : Option X} {val : X → Option Value} {mem : X → Mem} {rest : X → Option R}
    (hc : ∀ x, f = some x → Ct (zl Z) (zG Z) y bytes maxL ret fr lo As I (val x) (mem x)) (mv : MSp y bytes maxL ret n) (lnk : Cond.methodLink own idx y ∈ LT) (hn : As.length = n) (hfr : fr + 1 ≤ FR ∧ 8 + (maxL + 11) + lo ≤ LO)
    {st1 : X → List Value} (hst1 : ∀ x, (val x).toList ++ st = st1 x) (hroom : (st.map fun v => v.category).sum ≤ 8) (hst : st0 = As.reverse ++ st) (hL : L.length = nL) (d : decode cc pc = .ok (.invokestatic idx, 3)) (hq : pc + 3 = q) (kk : ∀ x, WF Z K (rest x) (mem x) q L (st1 x)) : WF Z K (Option.bind f rest) I pc L st0 := by
  intro r hr hkr H locs ls hRp hS hLs
  obtain ⟨x, h1, h2⟩ := Option.bind_eq_some_iff.mp hr
  subst hst
  obtain ⟨mi, mini, mcode, md⟩ := mv
  have hts := C.ts
  refine wm_run hS hLs (va_runS (As := As) (rest := st) ⟨C.x, C.b, C.ml, C.ow, hts⟩ (hc x h1)
    ⟨callB_of n hts (GoodIn.one mcode rfl) rfl rfl rfl (hts _ mini) (hts _ lnk) md (by rw [hR.1, hR.2]; exact hfr), hts _ mi⟩
    ⟨St.blind, fun U hU hW => ⟨rfl, by rw [hU]; exact hRp, C.kk.go hW hS hU⟩⟩ rfl hn (by rw [hLs.1]; exact hL) rfl (lv_room hroom) d ⟨by have := C.hc; exact this, by have := C.hs; exact this⟩) ?_
  rw [hst1]
  exact hq ▸ kk x r h2 hkr
theorem w_callSN (C : Cx Z cc nL own) {FR LO : Nat} (hR : RM Z FR LO) {idx maxL fr lo n : Nat} {y : MethodName} {host : String} {bytes : ByteArray} {ret : Option FieldType} {As st0 : List Value} {X : Type} {f : Option X} {val : X → Option Value} {mem : X → Mem} {rest : X → Option R}
    (hc : ∀ x, f = some x → Ct (zl Z) (zG Z) y bytes maxL ret fr lo As I (val x) (mem x)) (mv : MSp y bytes maxL ret n) (lnk : Cond.methodLinkNest own idx y host ∈ LT) (hn : As.length = n) (hfr : fr + 1 ≤ FR ∧ 8 + (maxL + 11) + lo ≤ LO)
    {st1 : X → List Value} (hst1 : ∀ x, (val x).toList ++ st = st1 x) (hroom : (st.map fun v => v.category).sum ≤ 8) (hst : st0 = As.reverse ++ st) (hL : L.length = nL) (d : decode cc pc = .ok (.invokestatic idx, 3)) (hq : pc + 3 = q) (kk : ∀ x, WF Z K (rest x) (mem x) q L (st1 x)) : WF Z K (Option.bind f rest) I pc L st0 := by
  intro r hr hkr H locs ls hRp hS hLs
  obtain ⟨x, h1, h2⟩ := Option.bind_eq_some_iff.mp hr
  subst hst
  obtain ⟨mi, mini, mcode, md⟩ := mv
  have hts := C.ts
  refine wm_run hS hLs (va_runSN (As := As) (rest := st) (host := host) ⟨C.x, C.b, C.ml, C.ow, hts⟩ (hc x h1)
    ⟨va_cnB n hts (GoodIn.one mcode rfl) rfl rfl rfl (va_Nw.of rfl (hts _ lnk)) (hts _ mini) md (by rw [hR.1, hR.2]; exact hfr), hts _ mi, trivial⟩
    ⟨St.blind, fun U hU hW => ⟨rfl, by rw [hU]; exact hRp, C.kk.go hW hS hU⟩⟩ rfl hn (by rw [hLs.1]; exact hL) rfl (lv_room hroom) d ⟨by have := C.hc; exact this, by have := C.hs; exact this⟩) ?_
  rw [hst1]
  exact hq ▸ kk x r h2 hkr
end CR
def iO (k ci : Nat) : Bool := decide (isO k ci)
theorem iO_of {k ci : Nat} (h : iO k ci = true) : isO k ci := of_decide_eq_true h
def sm {γ δ X : Type} (f : γ → X) (g : δ → X) (b : γ ⊕ δ) : X := match b with
  | .inl y => f y
  | .inr c => g c
def smP {γ δ : Type} (f : γ → Prop) (g : δ → Prop) (b : γ ⊕ δ) : Prop := match b with
  | .inl y => f y
  | .inr c => g c
theorem w_sm {γ δ R : Type} {K : R → Prop} {f : γ → Option R} {g : δ → Option R} {E1 : γ → Prop} {E2 : δ → Prop} (h1 : ∀ y x, f y = some x → K x → E1 y) (h2 : ∀ c x, g c = some x → K x → E2 c) : ∀ b x, sm f g b = some x → K x → smP E1 E2 b := by
  intro b x hx hk
  cases b with
  | inl y => exact h1 y x hx hk
  | inr c => exact h2 c x hx hk
theorem w_hx {Z : Zx} {R : Type} {K : R → Prop} {e : Option R} {I : Mem} {pc : Nat} {L : List (Option Value)} {st : List Value} (h : WF Z K e I pc L st) : ∀ x, e = some x → K x → WM Z I pc L st := h
theorem w_hr {R : Type} {K : R → Prop} {x : R} {P : Prop} (h : K x → P) : ∀ y, some x = some y → K y → P := fun y hy hk => h (by cases hy; exact hk)
theorem ret_i {x : Int32} {rt : Option FieldType} : ∀ ty v, rt = some ty → (some (.int x) : Option Value) = some v → (∃ x, v = .int x) ∨ ((∃ n, ty = .object n) ∨ ∃ t, ty = .array t) := fun _ _ _ h => Or.inl ⟨x, by cases h; rfl⟩
theorem ret_a {v : Value} {n : String} : ∀ ty w, (some (.object n) : Option FieldType) = some ty → some v = some w → (∃ x, w = .int x) ∨ ((∃ n, ty = .object n) ∨ ∃ t, ty = .array t) := fun _ _ h _ => Or.inr (Or.inl ⟨n, by cases h; rfl⟩)
theorem ret_v : ∀ (ty : FieldType) (v : Value), (none : Option FieldType) = some ty → (none : Option Value) = some v → (∃ x, v = .int x) ∨ ((∃ n, ty = .object n) ∨ ∃ t, ty = .array t) := fun _ _ h _ => by cases h
end
section
/-! methods that throw: contract, ends, calls -/
def exN : Nat → String
  | 0 => "java/lang/IllegalArgumentException"
  | 1 => "java/lang/IllegalStateException"
  | 2 => "java/lang/IndexOutOfBoundsException"
  | _ => "java/util/NoSuchElementException"
def rmx (fr lo mc ms : Nat) : Room := { frames := fr, cells := mc, slots := ms, locals := lo }
def QcX (G : Gx) (res : Option Value ⊕ Nat) (I' : Mem) : Array Value → State → Outcome → State → Prop := fun _ st o t => (∃ rv, res = .inl rv ∧ o = .returned rv) ∧ Rep G I' t.heap ∧ va_F (Ab G) st t
def XCX (G : Gx) (res : Option Value ⊕ Nat) (I' : Mem) : String → State → State → Prop := fun E st t => (∃ k, res = .inr k ∧ E = exN k) ∧ Rep G I' t.heap ∧ va_F (Ab G) st t
def CtX (l : Launch) (G : Gx) (y : MethodName) (cc : ByteArray) (maxL : Nat) (ret : Option FieldType) (fr lo mc ms : Nat) (av : List Value) (I : Mem) (res : Option Value ⊕ Nat) (I' : Mem) : Prop :=
  vx_Met l y [.code y cc maxL ret] (rmx fr lo mc ms) (va_Pc av (St G I)) (QcX G res I') (XCX G res I') mc ms (Ab G)
def NX (Z : Zx) : Prop := ∀ x ∈ (zc Z).exceptionTable.toList, False
def RetX (Z : Zx) (k : Nat) (I' : Mem) : Prop := NX Z ∧ (zl Z).stackTraces = false ∧ ∃ Qc XC, Z.2.2.2.2 = vx_MQ (zb Z) Qc XC (za Z) (zs Z) (zR Z).cells (zR Z).slots (Ab (zG Z)) ∧ ∀ t : State, Rep (zG Z) I' t.heap → va_F (Ab (zG Z)) (zs Z) t → XC (exN k) (zs Z) t
theorem CtX.of {l : Launch} {G : Gx} {y : MethodName} {cc : ByteArray} {maxL : Nat} {ret : Option FieldType} {fr lo mc ms : Nat} {av : List Value} {I : Mem} {res : Option Value ⊕ Nat} {I' : Mem} (hst : l.stackTraces = false) (hy : plainName y.cls = true) (hcat : (av.all fun v => v.category == 1) = true) (hlen : av.length ≤ maxL)
    (hret : ∀ rv, res = .inl rv → ∀ ty v, ret = some ty → rv = some v → (∃ x, v = .int x) ∨ ((∃ n, ty = .object n) ∨ ∃ t, ty = .array t))
    (body : ∀ Z : Zx, zG Z = G → zl Z = l → Cx Z cc maxL y.cls → RM Z fr lo → Z.2.2.1 + mc ≤ (zR Z).cells → Z.2.2.2.1 + ms ≤ (zR Z).slots → (∀ rv, res = .inl rv → RetOf Z cc ret rv I') → (∀ k, res = .inr k → RetX Z k I') → WM Z I 0 (av.map some ++ List.replicate (maxL - av.length) none) []) : CtX l G y cc maxL ret fr lo mc ms av I res I' := by
  have hcat : ∀ v ∈ av, v.category = 1 := fun v hv => by simpa using List.all_eq_true.mp hcat v hv
  refine vx_ofW (cc := cc) (maxL := maxL) (ret := ret) hy rfl ?_
  intro p e s m args below meth c s₁ B hml hnx hv
  obtain ⟨rfl, hR, hKK⟩ := hv
  have hown : s.vm.findClass y.cls = some m.cls := findClass_of_methodNamed B.named
  rw [lg_entry_eq]
  refine body ((p, l, e, _, s, m, av.toArray, below, meth, c), G, 0, 0, vx_MQ below (QcX G res I') (XCX G res I') av.toArray s mc ms (Ab G)) rfl rfl ⟨B.exec, B.bytes, hml, hown, B.notSynchronized, hKK, Nat.zero_le _, Nat.zero_le _⟩ ⟨rfl, rfl⟩ (by show 0 + mc ≤ mc; omega) (by show 0 + ms ≤ ms; omega) ?_ ?_ s.heap [] _ hR va_S.rf (hasL.entry av maxL hcat hlen)
  · intro rv hrv
    have hb : c.code = cc := B.bytes
    have hr := B.returns
    have hx := B.exec
    have hlocks := B.notSynchronized
    have hret2 := hret rv hrv
    clear hret
    unfold RetOf
    split
    · next =>
      intro c9 n9 pc L l1 l2 d H locs ls hR hS hL
      refine W.widen (k := mc) (n := ms) l1 l2 (vx_ret ?_)
      exact W.vret hx hb hr (fun t ht hW => ⟨⟨_, hrv, rfl⟩, by rw [ht]; exact hR, hS.F ht⟩) hS.2.2 d
    · next ty v =>
      intro c9 n9 pc L l1 l2 d hn H locs ls hR hS hL
      refine W.widen (k := mc) (n := ms) l1 l2 (vx_ret ?_)
      exact W.zret hx hb hr hn (fun t ht hW => ⟨⟨_, hrv, rfl⟩, by rw [ht]; exact hR, hS.F ht⟩) hS.2.2 d
    · next ty a =>
      intro k hk c9 n9 pc L l1 l2 d H locs ls hR hS hL
      have hk' : a = G.1 + k := hk
      subst hk'
      refine W.widen (k := mc) (n := ms) l1 l2 (vx_ret ?_)
      refine W.aret (rt := ty) hx hb hr ?_ (Or.inr ⟨_, rfl⟩) (fun t ht hW => ⟨⟨_, hrv, rfl⟩, by rw [ht]; exact hR, hS.F ht⟩) hS.2.2 d
      rcases hret2 ty _ rfl rfl with ⟨x, h⟩ | h
      · cases h
      · exact h
    · trivial
  · intro k hk
    exact ⟨hnx, hst, _, _, rfl, fun t h1 h2 => ⟨⟨k, hk, rfl⟩, h1, h2⟩⟩
theorem Cx.bump {Z : Zx} {cc : ByteArray} {nL : Nat} {own : String} (C : Cx Z cc nL own) {c n : Nat} (hc : c ≤ (zR Z).cells) (hs : n ≤ (zR Z).slots) : Cx (Zb Z c n) cc nL own :=
  ⟨C.x, C.b, C.ml, C.ow, C.lk, C.kk, hc, hs⟩
theorem Rep.kept {G : Gx} {I : Mem} {H H1 : Heap} (h : Rep G I H) (hq : ∀ q : Nat, q < H.size → H1[q]? = H[q]?) : Rep G I H1 := va_P.kept h (fun k q hk => hq q.1 (h k q hk).lt)
section TR
variable {Z : Zx} {cc : ByteArray} {nL : Nat} {own : String} {R : Type} {K : R → Prop} {e : Option R} {I : Mem} {pc q : Nat} {L : List (Option Value)} {st : List Value}
/-- the words of 'new E(text)' for the class own -/
abbrev TWp (own : String) (ik ic k : Nat) : Prop := Cond.classLink own ik (exN k) ∈ LT ∧ Cond.initialized (exN k) ∈ LT ∧ (∀ w ∈ vx_atS own ic (exN k) ["java/lang/RuntimeException", "java/lang/Exception"], w ∈ LT) ∧
  ((Cond.classLink own ik (exN k) :: Cond.initialized (exN k) :: vx_atS own ic (exN k) ["java/lang/RuntimeException", "java/lang/Exception"]).all vx_ot = true) ∧ Bundle.fit (exN k) = true
theorem w_throw (C : Cx Z cc nL own) {FR LO : Nat} (hR : RM Z FR LO) (hc : Z.2.2.1 + 1 ≤ (zR Z).cells) (hs : Z.2.2.2.1 + 6 ≤ (zR Z).slots) {x : R} {k ik is ic : Nat} {text : String} (hK : K x → RetX Z k I) (tw : TWp own ik ic k) (hstr : (own, is, text) ∈ strs)
    (hFR : 6 ≤ FR) (hLO : (st.map fun v => v.category).sum + 82 ≤ LO) (hL : L.length = nL)
    (d0 : decode cc pc = .ok (.new ik, 3)) (d3 : decode cc (pc + 3) = .ok (.dup, 1)) (d4 : decode cc (pc + 4) = .ok (.ldc is, 2)) (d6 : decode cc (pc + 6) = .ok (.invokespecial ic, 3)) (d9 : decode cc (pc + 9) = .ok (.athrow, 1)) : WF Z K (some x) I pc L st := by
  intro y hy hk H locs ls hRp hS hLs
  cases hy
  obtain ⟨hnx, hl, Qc, XC, hQ, hXC⟩ := hK hk
  obtain ⟨sa, hsa⟩ := C.kk.2.2.2.2 _ hstr
  obtain ⟨t1, t2, t3, t4, t5⟩ := tw
  show W _ _ _ _ _ _ _ _ _ _ H locs _ _ Z.2.2.2.2 _
  rw [hQ]
  exact vx_throwS (A := Ab (zG Z)) C.x C.b hl C.ow t5 (by decide +kernel) (C.ts _ t1) (C.ts _ t2) hsa (fun w hw => C.ts _ (t3 w hw)) (fun w hw => List.all_eq_true.mp t4 w hw) C.kk.2.2.1 C.kk.2.2.2.1 hS (by rw [C.ml, hLs.1, hL]) d0 d3 d4 d6 d9
    (fun z hz => (hnx z hz).elim) (by rw [hR.1]; exact hFR) (by rw [hR.2]; exact hLO) hc hs C.lk
    (fun t ha hz hq => hXC t (hRp.kept hq) ⟨Nat.le_trans hS.1 hz, fun q0 h1 h2 => by rw [hq q0 (Nat.lt_of_lt_of_le h1 hS.1)]; exact hS.2.1 q0 h1 h2⟩) hS.2.2 hc hs
theorem w_throwW (C : Cx Z cc nL own) {FR LO : Nat} (hR : RM Z FR LO) (hc : Z.2.2.1 + 1 ≤ (zR Z).cells) (hs : Z.2.2.2.1 + 6 ≤ (zR Z).slots) {x : R} {k ik is ic : Nat} {text : String} (hK : K x → RetX Z k I) (tw : TWp own ik ic k) (hstr : (own, is, text) ∈ strs)
    (hFR : 6 ≤ FR) (hLO : (st.map fun v => v.category).sum + 82 ≤ LO) (hL : L.length = nL)
    (d0 : decode cc pc = .ok (.new ik, 3)) (d3 : decode cc (pc + 3) = .ok (.dup, 1)) (d4 : decode cc (pc + 4) = .ok (.ldc_w is, 3)) (d7 : decode cc (pc + 7) = .ok (.invokespecial ic, 3)) (d10 : decode cc (pc + 10) = .ok (.athrow, 1)) : WF Z K (some x) I pc L st := by
  intro y hy hk H locs ls hRp hS hLs
  cases hy
  obtain ⟨hnx, hl, Qc, XC, hQ, hXC⟩ := hK hk
  obtain ⟨sa, hsa⟩ := C.kk.2.2.2.2 _ hstr
  obtain ⟨t1, t2, t3, t4, t5⟩ := tw
  show W _ _ _ _ _ _ _ _ _ _ H locs _ _ Z.2.2.2.2 _
  rw [hQ]
  exact vx_throwSW (A := Ab (zG Z)) C.x C.b hl C.ow t5 (by decide +kernel) (C.ts _ t1) (C.ts _ t2) hsa (fun w hw => C.ts _ (t3 w hw)) (fun w hw => List.all_eq_true.mp t4 w hw) C.kk.2.2.1 C.kk.2.2.2.1 hS (by rw [C.ml, hLs.1, hL]) d0 d3 d4 d7 d10
    (fun z hz => (hnx z hz).elim) (by rw [hR.1]; exact hFR) (by rw [hR.2]; exact hLO) hc hs C.lk
    (fun t ha hz hq => hXC t (hRp.kept hq) ⟨Nat.le_trans hS.1 hz, fun q0 h1 h2 => by rw [hq q0 (Nat.lt_of_lt_of_le h1 hS.1)]; exact hS.2.1 q0 h1 h2⟩) hS.2.2 hc hs
/-- behind a call that may throw: either way -/
theorem wm_runX {res : Option Value ⊕ Nat} {mc ms : Nat} {I' : Mem} {H : Heap} {locs : List Loc} {ls : Array Slot} {st0 : List Value} (hS : va_S (Ab (zG Z)) (zs Z).heap H locs) (hL : hasL ls L)
    (hr : vx_Run (zp Z) (zl Z) (ze Z) (zR Z) (zs Z) (zm Z) (za Z) (zb Z) (zh Z) (zc Z) H locs Z.2.2.1 Z.2.2.2.1 mc ms (F0 (zm Z) pc ls st0) st (fun st o t => (∃ rv, res = .inl rv ∧ o = .returned rv) ∧ Rep (zG Z) I' t.heap ∧ va_F (Ab (zG Z)) st t) (XCX (zG Z) res I') (Ab (zG Z)))
    (k : ∀ rv, res = .inl rv → WM (Zb Z (Z.2.2.1 + mc) (Z.2.2.2.1 + ms)) I' (pc + 3) L (rv.toList ++ st))
    (kx : ∀ kx, res = .inr kx → ∀ (H1 : Heap) (locs1 : List Loc) (ce : Cell) (q : Addr), Rep (zG Z) I' H1 → va_S (Ab (zG Z)) (zs Z).heap H1 locs1 → H1[q]? = some ce → ce.vm = .none → (zs Z).vm.findClass (exN kx) = some ce.cls →
      vx_W (zp Z) (zl Z) (ze Z) (zR Z) (zs Z) (zm Z) (za Z) (zb Z) (zh Z) (zc Z) H1 locs1 (Z.2.2.1 + mc) (Z.2.2.2.1 + ms) Z.2.2.2.2 (F0 (zm Z) pc ls st) q) : WZ Z H locs (F0 (zm Z) pc ls st0) := by
  have keep : ∀ (t st₀ T' : State) (Lx : List Loc), st₀.heap = H → T'.heap = t.heap → (∀ q ∈ Lx, Ab (zG Z) q.base) → va_F (Ab (zG Z)) st₀ t → va_S (Ab (zG Z)) (zs Z).heap T'.heap (locs ++ Lx) := by
    intro t st₀ T' Lx h0 e1 hLx hF
    obtain ⟨hz, hk⟩ := hF
    rw [h0] at hz hk
    exact ⟨Nat.le_trans hS.1 (by rw [e1]; exact hz), fun q h1 h2 => by rw [e1, hk q (Nat.lt_of_lt_of_le h1 hS.1) h2]; exact hS.2.1 q h1 h2, fun q hq => by
      rcases List.mem_append.mp hq with h | h
      · exact hS.2.2 q h
      · exact hLx q h⟩
  intro T hT X
  rcases hr T hT X with ⟨v, st₀, t, T', Lx, h0, X', hLx, e1, e2, ⟨⟨rv, hv, ho⟩, hst, hF⟩, go⟩ | ⟨q, st₀, t, T', Lx, E, ce, h0, X', hLx, e1, e2, ⟨⟨k9, h9, rfl⟩, hst, hF⟩, hce, hcv, hcl, go⟩
  · have hv' : v = rv := by injection ho
    subst hv'
    obtain ⟨t2, a1, b1⟩ := k v hv T'.heap (locs ++ Lx) ls (by rw [e1]; exact hst) (keep t st₀ T' Lx h0 e1 hLx hF) hL T' rfl X'
    exact ⟨t2, go t2 a1, b1⟩
  · obtain ⟨t2, a1, b1⟩ := kx k9 h9 T'.heap (locs ++ Lx) ce q (by rw [e1]; exact hst) (keep t st₀ T' Lx h0 e1 hLx hF) (by rw [e1]; exact hce) hcv hcl T' rfl X'
    exact ⟨t2, go.trans a1, b1⟩
theorem x_out (C : Cx Z cc nL own) {k : Nat} {ls : Array Slot} {mc ms : Nat} (hc : Z.2.2.1 + mc ≤ (zR Z).cells) (hs : Z.2.2.2.1 + ms ≤ (zR Z).slots) (hX : RetX Z k I) {H1 : Heap} {locs1 : List Loc} {ce : Cell} {q0 : Addr} (hRp : Rep (zG Z) I H1) (hS : va_S (Ab (zG Z)) (zs Z).heap H1 locs1) (hce : H1[q0]? = some ce) (hcv : ce.vm = .none) (hcl : (zs Z).vm.findClass (exN k) = some ce.cls) :
    vx_W (zp Z) (zl Z) (ze Z) (zR Z) (zs Z) (zm Z) (za Z) (zb Z) (zh Z) (zc Z) H1 locs1 (Z.2.2.1 + mc) (Z.2.2.2.1 + ms) Z.2.2.2.2 (F0 (zm Z) pc ls st) q0 := by
  obtain ⟨hnx, hl, Qc, XC, hQ, hXC⟩ := hX
  rw [hQ]
  exact vx_out (fun z hz => (hnx z hz).elim) C.lk hce hcv hcl (fun t ht hW => hXC t (by rw [ht]; exact hRp) (hS.F ht)) hS.2.2 hc hs
/-- the answer of a callee that may throw -/
def rsX {V : Type} (val : V → Option Value) (x : V ⊕ Nat) : Option Value ⊕ Nat := match x with
  | .inl v => .inl (val v)
  | .inr k => .inr k
def obx {V R : Type} (f : Option ((V ⊕ Nat) × Mem)) (ex : Nat → Mem → Option R) (rest : V → Mem → Option R) : Option R := match f with
  | none => none
  | some (.inl v, I) => rest v I
  | some (.inr k, I) => ex k I
theorem w_callVX (C : Cx Z cc nL own) {FR LO : Nat} (hR : RM Z FR LO) {ci idx maxL fr lo mc ms n k : Nat} {y : MethodName} {bytes : ByteArray} {ret : Option FieldType} {As st0 : List Value} {V : Type} {f : Option ((V ⊕ Nat) × Mem)} {val : V → Option Value} {rest : V → Mem → Option R} {ex : Nat → Mem → R}
    (hcc : Z.2.2.1 + mc ≤ (zR Z).cells) (hss : Z.2.2.2.1 + ms ≤ (zR Z).slots)
    (hc : ∀ x, f = some x → CtX (zl Z) (zG Z) y bytes maxL ret fr lo mc ms (rf (zG Z) k :: As) I (rsX val x.1) x.2) (hk : isO k ci) (mv : MVp ci y bytes maxL ret n) (lnk : Cond.methodLink own idx y ∈ LT) (hn : As.length = n) (hfr : fr + 1 ≤ FR ∧ 8 + (maxL + 11) + lo ≤ LO)
    {st1 : V → List Value} (hst1 : ∀ x, (val x).toList ++ st = st1 x) (hroom : (st.map fun v => v.category).sum ≤ 8) (hst : st0 = As.reverse ++ rf (zG Z) k :: st) (hL : L.length = nL) (d : decode cc pc = .ok (.invokevirtual idx, 3)) (hq : pc + 3 = q)
    (hX : ∀ k I', K (ex k I') → RetX Z k I')
    (kk : ∀ x I', WF (Zb Z (Z.2.2.1 + mc) (Z.2.2.2.1 + ms)) K (rest x I') I' q L (st1 x)) : WF Z K (obx f (fun k I' => some (ex k I')) rest) I pc L st0 := by
  intro r hr hkr H locs ls hRp hS hLs
  subst hst
  obtain ⟨⟨T, N, hcl⟩, mi, msel, mini, mcode, md⟩ := mv
  have hts := C.ts
  cases hf : f with
  | none => rw [hf] at hr; cases hr
  | some x =>
    obtain ⟨x, I'⟩ := x
    refine wm_runX (res := rsX val x) (I' := I') hS hLs (vx_runV (As := As) (rest := st) (C := y.cls) ⟨C.x, C.b, C.ml, C.ow, hts⟩ (hc _ hf)
      ⟨callB_of n hts (GoodIn.one mcode rfl) rfl rfl rfl (hts _ mini) (hts _ lnk) md (by rw [hR.1, hR.2]; exact hfr), hts _ mi, hts _ msel⟩
      ⟨St.blind, va_recv C.K hRp hcl (by rw [wd_get hk.1, cell_O hk]), fun U hU hW => ⟨rfl, by rw [hU]; exact hRp, C.kk.go hW hS hU⟩⟩ rfl hn (by rw [hLs.1]; exact hL) rfl (lv_room hroom) d ⟨hcc, hss⟩) ?_ ?_
    · intro rv hrv
      cases x with
      | inl v =>
        have e1 : val v = rv := by simpa [rsX] using hrv
        rw [← e1, hst1]
        rw [hf] at hr
        exact hq ▸ kk v I' r hr hkr
      | inr k9 => cases hrv
    · intro k9 hk9 H1 locs1 ce q0 h1 h2 h3 h4 h5
      cases x with
      | inl v => cases hk9
      | inr k8 =>
        have e1 : k8 = k9 := by simpa [rsX] using hk9
        subst e1
        rw [hf] at hr
        have e2 : ex k8 I' = r := by simpa [obx] using hr
        exact x_out C hcc hss (hX k8 I' (by rw [e2]; exact hkr)) h1 h2 h3 h4 h5
end TR
theorem retx_i {x : Int32 ⊕ Nat} {rt : Option FieldType} : ∀ rv, rsX (fun v => some (.int v)) x = .inl rv → ∀ ty v, rt = some ty → rv = some v → (∃ x, v = .int x) ∨ ((∃ n, ty = .object n) ∨ ∃ t, ty = .array t) := by
  intro rv h ty v _ hv
  cases x with
  | inl y =>
    have e1 : some (Value.int y) = rv := by simpa [rsX] using h
    subst hv
    exact Or.inl ⟨y, by cases e1; rfl⟩
  | inr k => cases h
theorem retx_v {x : Unit ⊕ Nat} : ∀ rv, rsX (fun _ => none) x = .inl rv → ∀ (ty : FieldType) (v : Value), (none : Option FieldType) = some ty → rv = some v → (∃ x, v = .int x) ∨ ((∃ n, ty = .object n) ∨ ∃ t, ty = .array t) := fun _ _ _ _ h _ => by cases h
theorem okA {a b c : Nat} {k : Nat} (h : a + c ≤ b) (hk : k ≤ c) : a + k ≤ b := Nat.le_trans (Nat.add_le_add_left hk a) h
end
section
/-! 'throw new NoSuchElementException(text)': its constructor calls the one above it by entry 13, where the kit's chain has entry 7 throughout; so the head of the chain is taken by itself -/
def nsS : String := "java/util/NoSuchElementException"
def nsR : String := "java/lang/RuntimeException"
def nsB : ByteArray := ⟨#[0x2a, 0x2b, 0xb7, 0x00, 0x0d, 0xb1]⟩
theorem nsB_0 : decode nsB 0 = .ok (.aload_n 0, 1) := by decide +kernel
theorem nsB_1 : decode nsB 1 = .ok (.aload_n 1, 1) := by decide +kernel
theorem nsB_2 : decode nsB 2 = .ok (.invokespecial 13, 3) := by decide +kernel
theorem nsB_5 : decode nsB 5 = .ok (.return_, 1) := by decide +kernel
def nsTail (own : String) (ic : Nat) : List Cond := [.methodLink own ic (Bundle.initS nsS), .instantiable nsS 6, .castable nsS nsS, .selects nsS Bundle.tFill0 Bundle.tFill0, .selects nsS Bundle.tFill Bundle.tFill,
  .lays nsS Bundle.tN "cause" "Ljava/lang/Throwable;", .lays nsS Bundle.tN "stackTrace" Bundle.steD, .lays nsS Bundle.tN "suppressedExceptions" Bundle.listD, .lays nsS Bundle.tN "detailMessage" "Ljava/lang/String;",
  .isRef (.static Bundle.tN "UNASSIGNED_STACK" Bundle.steD), .isRef (.static Bundle.tN "SUPPRESSED_SENTINEL" Bundle.listD),
  .fieldLink Bundle.tN 198 Bundle.tN "backtrace" "Ljava/lang/Object;", .lays Bundle.tN Bundle.tN "backtrace" "Ljava/lang/Object;", .lays nsS Bundle.tN "backtrace" "Ljava/lang/Object;"]
def nsAt (own : String) (ic : Nat) : List Cond := Bundle.throwableAtoms ++ (Bundle.throwableSAtoms ++ (Bundle.passSAtoms nsS nsR 13 nsB ++ (Bundle.chainSAtoms nsR ["java/lang/Exception"] ++ nsTail own ic)))
section NSE
variable {p : Program} {l : Launch} {e : Env} {R : Room} {s : State} {m₀ : MethodId} {args : Array Value} {below : List Frame} {meth : Method} {c : Code} {W : State} {locs : List Loc} {cells slots : Nat}
set_option maxHeartbeats 1000000 in
/-- from the call of the constructor on, the new cell at a: it ends by throwing a -/
theorem ns_ctor (X : Stand p l e R s m₀ args below meth c W locs cells slots) (hexec : p.tables.exec = Jvm.exec) (htr : e.platform.stackTraces = false) {own : String} {ic : Nat} (hown : s.vm.findClass own = some m₀.cls) (h : ∀ w ∈ nsAt own ic, w.before args s = true)
    (hlocs : ∀ x ∈ locs, ∀ cell, s.heap[x.base]? = some cell → cell.vm.isStatics = false)
    {a : Addr} {cX : ClassId} {kX : Class} (hfoundX : s.vm.findClass nsS = some cX) (hkX : s.vm.classes[cX]? = some kX) (hcell : W.heap[a]? = some (freshCell cX kX)) (hnew : s.heap.size ≤ a) {msg : Value} (hmsg : msg.isRef = true)
    {g : JFrame} (hg : g.method = m₀) (hsize : g.locals.size = c.maxLocals) (hlocked : g.locked = none) (hentered : g.entered = []) {rest : List Value} (hstack : g.stack = msg :: .ref a :: .ref a :: rest)
    (hd6 : decode c.code g.pc = .ok (.invokespecial ic, 3)) (hd9 : decode c.code (g.pc + 3) = .ok (.athrow, 1)) (hout : ∀ x ∈ c.exceptionTable.toList, covers x (g.pc + 3) = false)
    (hRframes : 5 < R.frames) (hRlocals : 2 * g.monitorRoom + ((Value.ref a :: rest).map fun v => v.category).sum + 81 ≤ R.locals) (hlocks : meth.locks = false) :
    ∃ U : State, Steps p.tables e below (W.setTop g) U ∧ U.status = .running ∧ Ended U below (.threw a) ∧ s.WarmedH U.vm ∧ s.sameButNew ({ U with vm := s.vm } : State) locs cells slots ∧
      ∃ ce, U.heap[a]? = some ce ∧ ce.vm = .none ∧ ce.cls = cX := by
  have howns : e.platform.frameOwnsMonitors = true := by rw [X.admits.platform]
  have hfin : e.platform.finalization = false := by rw [X.admits.platform]
  have hpl : e.platform.magicAccessors = ({} : Platform).magicAccessors := by rw [X.admits.platform]
  have h1 : ∀ w ∈ Bundle.throwableAtoms, w.before args s = true := fun w hw => h w (List.mem_append_left _ hw)
  have h2 : ∀ w ∈ Bundle.throwableSAtoms, w.before args s = true := fun w hw => h w (List.mem_append_right _ (List.mem_append_left _ hw))
  have h3 : ∀ w ∈ Bundle.passSAtoms nsS nsR 13 nsB, w.before args s = true := fun w hw => h w (List.mem_append_right _ (List.mem_append_right _ (List.mem_append_left _ hw)))
  have h4 : ∀ w ∈ Bundle.chainSAtoms nsR ["java/lang/Exception"], w.before args s = true := fun w hw => h w (List.mem_append_right _ (List.mem_append_right _ (List.mem_append_right _ (List.mem_append_left _ hw))))
  have h5 : ∀ w ∈ nsTail own ic, w.before args s = true := fun w hw => h w (List.mem_append_right _ (List.mem_append_right _ (List.mem_append_right _ (List.mem_append_right _ hw))))
  have a5 : ∀ w, w ∈ nsTail own ic → w.holds args s none s [] = true := fun w hw => h5 w hw
  obtain ⟨T, Z0, L, -, Y⟩ := ThrowableC.of_atoms (args := args) howns hfin hpl h1
  obtain ⟨Z, M, LZ, LM, hnZ⟩ := Init0T.ofS_atoms (args := args) hpl L Y h2
  obtain ⟨P1, L1, hP1m, hs1⟩ := PassC.ofS_atoms (args := args) (s := s) hpl (X := nsS) (Y := nsR) (by decide +kernel) (by decide +kernel) nsB_0 nsB_1 nsB_2 nsB_5 h3
  obtain ⟨P2, Ps, hlen, L2, hL, hP2m, hlink2, hlink⟩ := Bundle.chainS (args := args) hpl hnZ ["java/lang/Exception"] nsR (by decide +kernel) (by decide +kernel) h4
  have hlink1 : P1.sup = P2.m := Option.some.inj (hs1.symm.trans hP2m)
  have hfound : s.vm.findClass nsS = some P1.m.cls := findClass_of_methodNamed hP1m
  cases Option.some.inj (hfoundX.symm.trans hfound)
  obtain ⟨c1, kX', hc1, hk, hord, -, -, hn6⟩ := Cond.instantiable_spec (a5 (.instantiable nsS 6) (by simp [nsTail]))
  cases Option.some.inj (hc1.symm.trans hfound)
  cases Option.some.inj (hkX.symm.trans hk)
  have hsel0 : selectMethod e.platform s.vm P1.m.cls T.fill0 = .method T.fill0 := by
    obtain ⟨c2, r2, m2, q1, q2, q3, q4, -⟩ := Cond.selects_spec (a5 (.selects nsS Bundle.tFill0 Bundle.tFill0) (by simp [nsTail]))
    cases Option.some.inj (q1.symm.trans hfound)
    cases Option.some.inj (q2.symm.trans (State.methodFound?_of_named Y.fill0 (by decide)))
    cases Option.some.inj (q3.symm.trans Y.fill0)
    rw [Launch.admits_selectMethod X.admits]; exact q4
  have hselF : selectMethod e.platform s.vm P1.m.cls T.fill = .method T.fill := by
    obtain ⟨c2, r2, m2, q1, q2, q3, q4, -⟩ := Cond.selects_spec (a5 (.selects nsS Bundle.tFill Bundle.tFill) (by simp [nsTail]))
    cases Option.some.inj (q1.symm.trans hfound)
    cases Option.some.inj (q2.symm.trans (State.methodFound?_of_named Y.fill (by decide)))
    cases Option.some.inj (q3.symm.trans Y.fill)
    rw [Launch.admits_selectMethod X.admits]; exact q4
  obtain ⟨cellS0, hcS0, hiss⟩ := Y.statics
  obtain ⟨u0, hu0⟩ := Cond.staticRefV Y.unassigned L.unassignedStatic L.statics hcS0 hiss (a5 (.isRef (.static Bundle.tN "UNASSIGNED_STACK" Bundle.steD)) (by simp [nsTail]))
  obtain ⟨sen, hsen⟩ := Cond.staticRefV Y.sentinel L.sentinelStatic L.statics hcS0 hiss (a5 (.isRef (.static Bundle.tN "SUPPRESSED_SENTINEL" Bundle.listD)) (by simp [nsTail]))
  obtain ⟨ci198, i198, fB, hk198, hg198, ha198, hsB, -, hnB, htB, hffB⟩ := Cond.ownField (t := .object "java/lang/Object") Y.found L.cls (by decide +kernel) (a5 (.fieldLink Bundle.tN 198 Bundle.tN "backtrace" "Ljava/lang/Object;") (by simp [nsTail])) (a5 (.lays Bundle.tN Bundle.tN "backtrace" "Ljava/lang/Object;") (by simp [nsTail])) e.platform hpl
  obtain ⟨cellS, hcS', heS, -, hkeep⟩ := X.same.2.2.2.2.2 T.aS cellS0 hcS0
  have hcellS : W.heap[T.aS]? = some cellS := hcS'
  have hout' : ∀ i, (⟨T.aS, i⟩ : Loc) ∉ locs := fun i hmem => by
    have := hlocs _ hmem cellS0 hcS0
    rw [hiss] at this; cases this
  have hknownS : cellS.vm ≠ .unknown := by
    rw [heS]; intro hu
    rw [show cellS0.vm = .unknown from hu] at hiss
    cases hiss
  have hneS : T.aS ≠ a := Nat.ne_of_lt (Nat.lt_of_lt_of_le (Array.getElem?_eq_some_iff.mp hcS0).1 hnew)
  obtain ⟨iM, hffM⟩ := Y.msg
  obtain ⟨tyC, dC, hdC, hdnC⟩ := Cond.laysAt hfound hk Y.cause (a5 (.lays nsS Bundle.tN "cause" "Ljava/lang/Throwable;") (by simp [nsTail]))
  obtain ⟨tyS, dS, hdS, hdnS⟩ := Cond.laysAt hfound hk Y.stack (a5 (.lays nsS Bundle.tN "stackTrace" Bundle.steD) (by simp [nsTail]))
  obtain ⟨tyP, dP, hdP, hdnP⟩ := Cond.laysAt hfound hk Y.supp (a5 (.lays nsS Bundle.tN "suppressedExceptions" Bundle.listD) (by simp [nsTail]))
  obtain ⟨tyM, dM, hdM, hdnM⟩ := Cond.laysAt hfound hk hffM (a5 (.lays nsS Bundle.tN "detailMessage" "Ljava/lang/String;") (by simp [nsTail]))
  obtain ⟨tyB, dB, hdB, hdnB⟩ := Cond.laysAt hfound hk hffB (a5 (.lays nsS Bundle.tN "backtrace" "Ljava/lang/Object;") (by simp [nsTail]))
  have bC := Cond.laysApart hdB hdC hdnB hdnC (by rw [hnB, Y.causeName]; decide)
  have bS := Cond.laysApart hdB hdS hdnB hdnS (by rw [hnB, Y.stackName]; decide)
  have bP := Cond.laysApart hdB hdP hdnB hdnP (by rw [hnB, Y.suppName]; decide)
  have hskip : SkipFacts T e.platform s (fun u => u) u0 ((preparedCellV T.toThrowableT (freshCell P1.m.cls kX) a u0 sen).withEntry W.cur) :=
    ⟨{ ci198 := ci198, i198 := i198, fBack := fB }, ⟨hk198, hg198, ha198, hsB⟩, by
      have := fresh_default (c := P1.m.cls) tyB
      rw [htB] at this
      simpa [preparedCellV, Cell.setSlot, Cell.withEntry, Array.getElem?_setIfInBounds, bC, bS, bP, bC.symm, bS.symm, bP.symm, defaultValue] using this, fun _ _ => rfl⟩
  obtain ⟨tm, methC, cdC, kC, vm₁, hnC, -, -, -, -, -, -, -, hW₁, st1⟩ := Steps.initColdS (tb := p.tables) (e := e) (below := below) (s := s) (U := W) X.here hexec X.warmed hpl hown (t := Bundle.initS nsS) rfl rfl (by decide +kernel)
    (a5 (.methodLink own ic (Bundle.initS nsS)) (by simp [nsTail])) (h3 (.instanceMethod (Bundle.initS nsS)) (by simp [Bundle.passSAtoms])) (bytes := nsB) (maxL := 2) (h3 (.code (Bundle.initS nsS) nsB 2 none) (by simp [Bundle.passSAtoms]))
    (f := g) hg (a := a) (msg := msg) (rest := .ref a :: rest) hstack hd6
  cases Option.some.inj (hnC.symm.trans hP1m)
  have X₁ := X.noted hW₁
  obtain ⟨vm₂, X₂, st2⟩ := X₁.ctorMessageOffV hexec (g := { g with stack := .ref a :: rest }) hg hsize T L Z LZ M LM (P1 :: P2 :: Ps)
    (fun P hP => by
      rcases List.mem_cons.mp hP with rfl | hP
      · exact L1
      · rcases List.mem_cons.mp hP with rfl | hP
        · exact L2
        · exact hL P hP) ⟨hlink1, hlink2, hlink⟩ (u0 := u0) (sen := sen) (self := a) hmsg (cell := freshCell P1.m.cls kX) (cellS := cellS)
    hcell (fun _ => by simp) (by simp) rfl rfl hsel0 hselF hcellS hneS hknownS (by rw [hkeep _ (hout' _)]; exact hu0) (by rw [hkeep _ (hout' _)]; exact hsen)
    (Takes.of_laid hk hord tyC (by rw [Y.causeType]; rfl)) (Takes.of_laid hk hord tyS (by rw [Y.stackType]; exact fits_refV_array _ u0)) (Takes.of_laid hk hord tyP (by rw [Y.suppType]; exact fits_refV_object _ sen))
    (Takes.of_laid hk hord tyM (by rw [Y.msgType]; exact fits_refV_object _ ⟨msg, hmsg⟩)) Y.objLocals hskip htr [] hd6
    (by simp only [List.length_cons, hlen, List.length_nil]; omega) (by simp only [List.length_cons, hlen, List.length_nil]; exact hRlocals)
  obtain ⟨hwalk, hrun, hended, hWU, hsame⟩ := X₂.athrowLeaves hexec (g := { g with stack := .ref a :: rest, pc := g.pc + 3 }) hg hlocked hentered hout (a := a) (rest := rest) rfl hd9
  have hlt : a < ((W.setVm vm₁).setVm vm₂).heap.size := (Array.getElem?_eq_some_iff.mp hcell).1
  have hU := heapAt_setCell_self (s := (W.setVm vm₁).setVm vm₂) (plainBareV T.toThrowableT (freshCell P1.m.cls kX) a u0 sen msg) hlt
  refine ⟨_, st1 _ (fun acts => ?_), hrun, hended, hWU, hsame.weaken (fun y hy hlt' => ?_) (Nat.le_refl _) (Nat.le_refl _), _, hU, rfl, rfl⟩
  · rw [doInvoke_state]
    exact st2 _ hwalk
  · rcases List.mem_append.mp hy with h9 | h9
    · exact h9
    · exfalso
      have hb : y.base = a := by
        simp only [List.mem_cons, List.not_mem_nil, or_false] at h9
        rcases h9 with rfl | rfl | rfl | rfl | rfl <;> rfl
      rw [hb] at hlt'
      exact Nat.not_lt.mpr hnew hlt'
end NSE
section NSR
variable {Z : Zx} {cc : ByteArray} {nL : Nat} {own : String} {R : Type} {K : R → Prop} {I : Mem} {pc : Nat} {L : List (Option Value)} {st : List Value}
abbrev TNp (own : String) (ik ic : Nat) : Prop := Cond.classLink own ik nsS ∈ LT ∧ Cond.initialized nsS ∈ LT ∧ (∀ w ∈ (nsAt own ic).filter vx_no, w ∈ LT) ∧ ((Cond.classLink own ik nsS :: Cond.initialized nsS :: (nsAt own ic).filter vx_no).all vx_ot = true)
theorem w_throwN (C : Cx Z cc nL own) {FR LO : Nat} (hR : RM Z FR LO) (hc : Z.2.2.1 + 1 ≤ (zR Z).cells) (hs : Z.2.2.2.1 + 6 ≤ (zR Z).slots) {x : R} {ik is ic : Nat} {text : String} (hK : K x → RetX Z 3 I) (tw : TNp own ik ic) (hstr : (own, is, text) ∈ strs)
    (hFR : 6 ≤ FR) (hLO : (st.map fun v => v.category).sum + 82 ≤ LO) (hL : L.length = nL)
    (d0 : decode cc pc = .ok (.new ik, 3)) (d3 : decode cc (pc + 3) = .ok (.dup, 1)) (d4 : decode cc (pc + 4) = .ok (.ldc is, 2)) (d6 : decode cc (pc + 6) = .ok (.invokespecial ic, 3)) (d9 : decode cc (pc + 9) = .ok (.athrow, 1)) : WF Z K (some x) I pc L st := by
  intro y hy hk H locs ls hRp hS hLs T hT X
  cases hy
  obtain ⟨hnx, hl, Qc, XC, hQ, hXC⟩ := hK hk
  obtain ⟨sa, hsa⟩ := C.kk.2.2.2.2 _ hstr
  obtain ⟨t1, t2, t3, t4⟩ := tw
  have hat : ∀ w ∈ (nsAt own ic).filter vx_no, w.before (za Z) (zs Z) = true := fun w hw => C.ts _ (t3 w hw)
  have hgood : ∀ w ∈ Cond.classLink own ik nsS :: Cond.initialized nsS :: (nsAt own ic).filter vx_no, vx_ot w = true := fun w hw => List.all_eq_true.mp t4 w hw
  have hb := C.b
  have htr : (ze Z).platform.stackTraces = false := (show (ze Z).platform.stackTraces = (zl Z).stackTraces by rw [X.admits.platform]).trans hl
  have Y := vx_rebase X (R' := { frames := (zR Z).frames, locals := (zR Z).locals, cells := 1, slots := 6 }) (Nat.le_refl _) (Nat.le_refl _) hc hs
  obtain ⟨s', hA⟩ : ∃ z, z = (T.setVm (zs Z).vm).setFrames (.invoking (zm Z) (za Z) :: zb Z) := ⟨_, rfl⟩
  rw [← hA] at Y
  have hvm : s'.vm = (zs Z).vm := by rw [hA]; rfl
  have hhp : s'.heap = H := by rw [hA]; exact hT
  have hW0 : (zs Z).WarmedH s'.vm := by rw [hvm]; exact State.WarmedH.refl _
  have hat' : ∀ w ∈ (nsAt own ic).filter vx_no, w.before (za Z) s' = true := fun w hw => vx_ot_at hW0 hvm.symm (hgood w (List.mem_cons_of_mem _ (List.mem_cons_of_mem _ hw))) (hat w hw)
  have hk' : (Cond.classLink own ik nsS).before (za Z) s' = true := vx_ot_at hW0 hvm.symm (hgood _ List.mem_cons_self) (C.ts _ t1)
  have hini' : (Cond.initialized nsS).before (za Z) s' = true := vx_ot_at hW0 hvm.symm (hgood _ (List.mem_cons_of_mem _ List.mem_cons_self)) (C.ts _ t2)
  have hU' : vx_Zq Bundle.tN "UNASSIGNED_STACK" Bundle.steD (Ab (zG Z)) s' s'.heap := by rw [hhp]; exact vx_Zq.moved hW0.alike (C.kk.2.2.1.kept hS.2.1)
  have hN' : vx_Zq Bundle.tN "SUPPRESSED_SENTINEL" Bundle.listD (Ab (zG Z)) s' s'.heap := by rw [hhp]; exact vx_Zq.moved hW0.alike (C.kk.2.2.2.1.kept hS.2.1)
  have h : ∀ w ∈ nsAt own ic, w.before (za Z) s' = true := vx_own hat' (vx_isRefq hU'.1) (vx_isRefq hN'.1) hU'.2.word hN'.2.word
  have hown' : s'.vm.findClass own = some (zm Z).cls := by rw [hvm]; exact C.ow
  have hins : (Cond.instantiable nsS 6).before (za Z) s' = true := h _ (by simp [nsAt, nsTail])
  obtain ⟨vm₁, cX, kX, hfX, hkX, -, -, X₁, st1⟩ := Y.newCold C.x (own := own) (C := nsS) (index := ik) (n := 6) hown' hk' hins hini'
    (g := F0 (zm Z) pc ls st) rfl (by rw [hb]; exact d0) (Nat.le_refl _) (Nat.le_refl _)
  generalize hT1 : (T.setVm vm₁).pushCell { cls := cX, slots := kX.instanceTypes.map defaultValue, vm := .none } = T1 at X₁ st1
  have hcat : (Value.ref T.heap.size).category = 1 := rfl
  have hcellA : T1.heap[T.heap.size]? = some (freshCell cX kX) := by rw [← hT1]; exact State.heap_pushCell_size _ _
  have d3' : decode (zc Z).code (pc + 3) = .ok (.dup, 1) := by rw [hb]; exact d3
  have d4' : decode (zc Z).code (pc + 4) = .ok (.ldc is, 2) := by rw [hb]; exact d4
  have hstr' : vk_R own is text sa s' := vk_R.warm hW0 hsa
  have hLOr : (st.map fun v => v.category).sum + 82 ≤ (zR Z).locals := by rw [hR.2]; exact hLO
  have hFRr : 5 < (zR Z).frames := by rw [hR.1]; exact hFR
  obtain ⟨U, hsteps, hrun, hend, hW, hsame, ce, hce, hcv, hcc⟩ := ns_ctor X₁ C.x htr (own := own) (ic := ic) hown' h (fun x hx => nomatch hx) hfX hkX hcellA (by rw [hhp, hT]; exact Nat.le_refl _) (msg := .ref sa) rfl
    (g := { method := zm Z, pc := pc + 6, locals := ls, stack := .ref sa :: .ref T.heap.size :: .ref T.heap.size :: st, locked := none }) rfl (by show ls.size = _; rw [C.ml, hLs.1, hL]) rfl rfl (rest := st) rfl
    (by rw [hb]; exact d6) (by rw [hb]; exact d9) (fun z hz => (hnx z hz).elim) hFRr (by show 2 * 0 + _ + 81 ≤ _; simp only [List.map_cons, List.sum_cons, hcat]; omega) C.lk
  obtain ⟨f1, f2⟩ := vx_frame hsame
  rw [hhp] at f1 f2
  have f2' : ∀ q : Nat, q < H.size → U.heap[q]? = H[q]? := fun q hq => f2 q hq (fun z hz => nomatch hz)
  have hWs : (zs Z).WarmedH U.vm := State.WarmedH.trans hW0 hW
  have hcl : (zs Z).vm.findClass nsS = some ce.cls := by
    rw [hcc, ← hvm]
    exact hfX
  have hall : (zs Z).sameButNew ({ U with vm := (zs Z).vm } : State) locs (zR Z).cells (zR Z).slots := by
    subst hA
    obtain ⟨e1, e2⟩ := hsame
    rw [State.setFrames_setFrames] at e1
    have h2 : (T.setVm (zs Z).vm).sameButNew ({ U with vm := (zs Z).vm } : State) [] (0 + 1) (0 + 6) := ⟨e1, e2⟩
    have h3 := X.same.trans h2
    rw [List.append_nil] at h3
    exact h3.mono hc hs
  have hXC' : XC nsS (zs Z) U := hXC U (hRp.kept f2') ⟨Nat.le_trans hS.1 f1, fun q0 h1 h2 => by rw [f2' q0 (Nat.lt_of_lt_of_le h1 hS.1)]; exact hS.2.1 q0 h1 h2⟩
  rw [hQ]
  refine ⟨U, ?_, .threw T.heap.size, hrun, hend, Or.inr ⟨T.heap.size, rfl, nsS, ce, locs, hXC', hce, hcv, hcl, hWs, hall, hS.2.2⟩⟩
  refine st1 _ ?_
  show Steps (zp Z).tables (ze Z) (zb Z) (T1.setTop { method := zm Z, pc := pc + 3, locals := ls, stack := .ref T.heap.size :: st, locked := none }) _
  have hxx := C.x
  jvm_step X₁.here [X₁.here.top, hxx, d3', Value.category]
  exact X₁.ldcString C.x (own := own) (text := text) (index := is) (a := sa) hown' hstr'.1 hstr'.2
    (g := { method := zm Z, pc := pc + 4, locals := ls, stack := .ref T.heap.size :: .ref T.heap.size :: st, locked := none }) rfl d4' _ hsteps
end NSR
end
section
/-! the constructors: a heap that grows, told by numbers alone, so that the kernel can run them -/
abbrev AC : Type := Nat × Nat × List Nat
abbrev AH : Type := List AC
def d0 : AC := (99, 0, [])
def fvA (G : Gx) (ci j code : Nat) : Value := if fk ci j = 0 then .int (nI code) else (if code = 0 then .null else .ref (G.1 + (code - 1)))
def qA (G : Gx) (code : Nat) : Option Nat := if code = 0 then none else some (G.1 + (code - 1))
def cellA (G : Gx) (a : AC) : va_E := match a with
  | (0, ci, fs) => .inr (ci, (List.range (nf ci)).map (fun j => fvA G ci j (fs.getD j 0)))
  | (1, n, _) => .inl (G.2.2.2 0, n, .inl (fun _ => 0))
  | (2, n, _) => .inl (G.2.2.2 1, n, .inl (fun _ => 0))
  | (3, n, _) => .inl (G.2.2.2 2, n, .inl (fun _ => 0))
  | (4, n, _) => .inl (G.2.2.2 3, n, .inr (.inl (fun _ => 0)))
  | (t + 5, n, fs) => .inl (G.2.2.2 (t + 4), n, .inr (.inr (.inr (.inr (fun i => qA G (fs.getD i 0))))))
def wdA (G : Gx) (A : AH) : va_W := (List.range A.length).map (fun k => (G.1 + k, cellA G (A.getD k d0)))
def RepA (G : Gx) (A : AH) (H : Heap) : Prop := H.size = G.1 + A.length ∧ va_P (Dg G) vwCl (wdA G A) H
def szC (a : AC) : Nat := if a.1 = 0 then nf a.2.1 else a.2.1
def szA (A : AH) : Nat := (A.map szC).sum
theorem szA_app (A : AH) (a : AC) : szA (A ++ [a]) = szA A + szC a := by simp [szA]
theorem wdA_get {G : Gx} {A : AH} {k : Nat} (hk : k < A.length) : (wdA G A)[k]? = some (G.1 + k, cellA G (A.getD k d0)) := by simp [wdA, hk]
theorem wdA_apart {G : Gx} {A : AH} : va_D (Ab G) (wdA G A) := by
  refine ⟨fun i j p q hi hj hpq => ?_, fun k q hq => ?_⟩
  · have li := (List.getElem?_eq_some_iff.mp hi).1
    have lj := (List.getElem?_eq_some_iff.mp hj).1
    simp only [wdA, List.length_map, List.length_range] at li lj
    rw [wdA_get li] at hi
    rw [wdA_get lj] at hj
    cases hi
    cases hj
    simp only at hpq
    omega
  · have lk := (List.getElem?_eq_some_iff.mp hq).1
    simp only [wdA, List.length_map, List.length_range] at lk
    rw [wdA_get lk] at hq
    cases hq
    exact Nat.le_add_right _ _
theorem getD_app_l {A : AH} {a : AC} {k : Nat} (hk : k < A.length) : (A ++ [a]).getD k d0 = A.getD k d0 := by
  rw [List.getD_eq_getElem?_getD, List.getD_eq_getElem?_getD, List.getElem?_append_left hk]
theorem getD_app_r {A : AH} {a : AC} : (A ++ [a]).getD A.length d0 = a := by
  rw [List.getD_eq_getElem?_getD, List.getElem?_append_right (Nat.le_refl _), Nat.sub_self]
  rfl
theorem RepA.push {G : Gx} {A : AH} {H H1 : Heap} {a : AC} (h : RepA G A H) (hz : H1.size = H.size + 1) (hk : ∀ q : Nat, q < H.size → H1[q]? = H[q]?) (ha : va_at (Dg G) vwCl (G.1 + A.length, cellA G a) H1) : RepA G (A ++ [a]) H1 := by
  obtain ⟨h1, h2⟩ := h
  refine ⟨by rw [hz, h1, List.length_append]; rfl, fun k q hq => ?_⟩
  have lk := (List.getElem?_eq_some_iff.mp hq).1
  simp only [wdA, List.length_map, List.length_range, List.length_append, List.length_cons, List.length_nil] at lk
  rw [wdA_get (by rw [List.length_append]; exact lk)] at hq
  cases hq
  by_cases e : k < A.length
  · rw [getD_app_l e]
    exact (h2 k _ (wdA_get e)).kept (hk _ (by rw [h1]; show G.1 + k < _; omega))
  · have e1 : k = A.length := by omega
    subst e1
    rw [getD_app_r]
    exact ha
theorem wdA_set {G : Gx} {A : AH} {k : Nat} {a : AC} {e : va_E} (hk : k < A.length) (he : cellA G a = e) : (wdA G A).set k (G.1 + k, e) = wdA G (A.set k a) := by
  apply List.ext_getElem?
  intro b
  by_cases h : b = k
  · subst h
    rw [List.getElem?_set_self (by simp [wdA, hk]), wdA_get (by simpa using hk)]
    rw [List.getD_eq_getElem?_getD, List.getElem?_set_self hk]
    simp [he]
  · rw [List.getElem?_set_ne (Ne.symm h)]
    by_cases hb : b < A.length
    · rw [wdA_get hb, wdA_get (by simpa using hb), List.getD_eq_getElem?_getD, List.getD_eq_getElem?_getD, List.getElem?_set_ne (Ne.symm h)]
    · rw [List.getElem?_eq_none (by simp [wdA]; omega), List.getElem?_eq_none (by simp [wdA]; omega)]
/-! the judgement: counts of cells and slots go with the heap's length -/
def WN (Z : Zx) (a0 s0 : Nat) (A : AH) (pc : Nat) (L : List (Option Value)) (st : List Value) : Prop :=
  ∀ (H : Heap) (locs : List Loc) (ls : Array Slot), RepA (zG Z) A H → va_S (Ab (zG Z)) (zs Z).heap H locs → hasL ls L → WZ (Zb Z (A.length - a0) (szA A - s0)) H locs (F0 (zm Z) pc ls st)
def WFN {R : Type} (Z : Zx) (a0 s0 : Nat) (K : R → Prop) (e : Option R) (A : AH) (pc : Nat) (L : List (Option Value)) (st : List Value) : Prop := ∀ x, e = some x → K x → WN Z a0 s0 A pc L st
/-- the same below the frame: new cells are above the law's heap -/
def CN (Z : Zx) (mc ms : Nat) : Prop := (zR Z).cells = mc ∧ (zR Z).slots = ms ∧ (zG Z).1 ≤ (zs Z).heap.size ∧ (zh Z).name = "<init>"
def gN (A : AH) (a0 s0 mc ms dc dn : Nat) : Bool := decide (a0 ≤ A.length ∧ s0 ≤ szA A ∧ A.length + dc ≤ a0 + mc ∧ szA A + dn ≤ s0 + ms)
def gO (A : AH) (k ci : Nat) : Bool := decide (k < A.length ∧ (A.getD k d0).1 = 0 ∧ (A.getD k d0).2.1 = ci ∧ (A.getD k d0).2.2.length = nf ci)
def gR (A : AH) (k t n : Nat) : Bool := decide (k < A.length ∧ (A.getD k d0).1 = t + 5 ∧ (A.getD k d0).2.1 = n ∧ (A.getD k d0).2.2.length = n)
def fsA (A : AH) (k : Nat) : List Nat := (A.getD k d0).2.2
def setA (A : AH) (k j v : Nat) : AH := A.set k ((A.getD k d0).1, (A.getD k d0).2.1, (fsA A k).set j v)
theorem gO_of {A : AH} {k ci : Nat} (h : gO A k ci = true) : k < A.length ∧ A.getD k d0 = (0, ci, fsA A k) ∧ (fsA A k).length = nf ci := by
  simp only [gO, decide_eq_true_eq] at h
  refine ⟨h.1, ?_, h.2.2.2⟩
  rw [← h.2.1, ← h.2.2.1]
  rfl
theorem gR_of {A : AH} {k t n : Nat} (h : gR A k t n = true) : k < A.length ∧ A.getD k d0 = (t + 5, n, fsA A k) ∧ (fsA A k).length = n := by
  simp only [gR, decide_eq_true_eq] at h
  refine ⟨h.1, ?_, h.2.2.2⟩
  rw [← h.2.1, ← h.2.2.1]
  rfl
def RetN (Z : Zx) (cc : ByteArray) (mc ms : Nat) (A : AH) : Prop := ∀ (c n pc : Nat) (L : List (Option Value)), c ≤ mc → n ≤ ms → decode cc pc = .ok (.return_, 1) → ∀ (H : Heap) (locs : List Loc) (ls : Array Slot), RepA (zG Z) A H → va_S (Ab (zG Z)) (zs Z).heap H locs → hasL ls L → WZ (Zb Z c n) H locs (F0 (zm Z) pc ls [])
section NR
variable {Z : Zx} {cc : ByteArray} {nL : Nat} {own : String} {R : Type} {K : R → Prop} {e : Option R} {A : AH} {a0 s0 pc q : Nat} {L : List (Option Value)} {st : List Value}
theorem WFN.less {L' : List (Option Value)} (h : WFN Z a0 s0 K e A pc L' st) (hl : lessL L' L) : WFN Z a0 s0 K e A pc L st :=
  fun x hx hk H locs ls hR hS hL => h x hx hk H locs ls hR hS (hL.less hl.to.1 hl.to.2)
theorem n_gd {b : Bool} (kk : b = true → WFN Z a0 s0 K e A pc L st) : WFN Z a0 s0 K (gd b e) A pc L st := fun x hx => kk (gd_some hx).1 x (gd_some hx).2
theorem n_jmp {x : R} (hK : K x → WN Z a0 s0 A pc L st) : WFN Z a0 s0 K (some x) A pc L st := by
  intro y hy hk
  cases hy
  exact hK hk
theorem n_iconst (C : Cx Z cc nL own) {n : Int} {v : Int32} (d : decode cc pc = .ok (.iconst n, 1)) (hv : Int32.ofInt n = v) (hq : pc + 1 = q) (k : WFN Z a0 s0 K e A q L (.int v :: st)) : WFN Z a0 s0 K e A pc L st :=
  fun x hx hk H locs ls hR hS hL => lv_iconst C.x C.b d hv (hq ▸ k x hx hk H locs ls hR hS hL)
theorem n_bipush (C : Cx Z cc nL own) {n : Int} {v : Int32} (d : decode cc pc = .ok (.bipush n, 2)) (hv : (Int8.ofInt n).toInt32 = v) (hq : pc + 2 = q) (k : WFN Z a0 s0 K e A q L (.int v :: st)) : WFN Z a0 s0 K e A pc L st :=
  fun x hx hk H locs ls hR hS hL => lv_bipush C.x C.b d hv (hq ▸ k x hx hk H locs ls hR hS hL)
theorem n_sipush (C : Cx Z cc nL own) {n : Int} {v : Int32} (d : decode cc pc = .ok (.sipush n, 3)) (hv : (Int16.ofInt n).toInt32 = v) (hq : pc + 3 = q) (k : WFN Z a0 s0 K e A q L (.int v :: st)) : WFN Z a0 s0 K e A pc L st :=
  fun x hx hk H locs ls hR hS hL => lv_sipush C.x C.b d hv (hq ▸ k x hx hk H locs ls hR hS hL)
theorem n_iload_n (C : Cx Z cc nL own) {n : Fin 4} {v : Int32} (d : decode cc pc = .ok (.iload_n n, 1)) (hl : L[(n : Nat)]? = some (some (.int v))) (hq : pc + 1 = q) (k : WFN Z a0 s0 K e A q L (.int v :: st)) : WFN Z a0 s0 K e A pc L st :=
  fun x hx hk H locs ls hR hS hL => lv_iload_n C.x C.b d rfl (hL.get hl) (hq ▸ k x hx hk H locs ls hR hS hL)
theorem n_iload (C : Cx Z cc nL own) {n : Nat} {v : Int32} (d : decode cc pc = .ok (.iload n, 2)) (hl : L[n]? = some (some (.int v))) (hq : pc + 2 = q) (k : WFN Z a0 s0 K e A q L (.int v :: st)) : WFN Z a0 s0 K e A pc L st :=
  fun x hx hk H locs ls hR hS hL => lv_iload C.x C.b d (hL.get hl) (hq ▸ k x hx hk H locs ls hR hS hL)
theorem n_aload_n (C : Cx Z cc nL own) {n : Fin 4} {v : Nat} (d : decode cc pc = .ok (.aload_n n, 1)) (hl : L[(n : Nat)]? = some (some (rf (zG Z) v))) (hq : pc + 1 = q) (k : WFN Z a0 s0 K e A q L (rf (zG Z) v :: st)) : WFN Z a0 s0 K e A pc L st :=
  fun x hx hk H locs ls hR hS hL => lv_aload_n C.x C.b d rfl (hL.get hl) (hq ▸ k x hx hk H locs ls hR hS hL)
theorem n_aload (C : Cx Z cc nL own) {n : Nat} {v : Nat} (d : decode cc pc = .ok (.aload n, 2)) (hl : L[n]? = some (some (rf (zG Z) v))) (hq : pc + 2 = q) (k : WFN Z a0 s0 K e A q L (rf (zG Z) v :: st)) : WFN Z a0 s0 K e A pc L st :=
  fun x hx hk H locs ls hR hS hL => lv_aload C.x C.b d (hL.get hl) (hq ▸ k x hx hk H locs ls hR hS hL)
theorem n_istore_n (C : Cx Z cc nL own) {n : Fin 4} {v : Int32} {L' : List (Option Value)} (d : decode cc pc = .ok (.istore_n n, 1)) (hn : (n : Nat) < L.length) (hl : L.set n (some (.int v)) = L') (hq : pc + 1 = q) (k : WFN Z a0 s0 K e A q L' st) : WFN Z a0 s0 K e A pc L (.int v :: st) :=
  fun x hx hk H locs ls hR hS hL => lv_istore_n C.x C.b d rfl hL.has hn rfl (fun ls' h' => hq ▸ k x hx hk H locs ls' hR hS (hl ▸ hasL.of hn rfl hL.cat h'))
theorem n_istore (C : Cx Z cc nL own) {n : Nat} {v : Int32} {L' : List (Option Value)} (d : decode cc pc = .ok (.istore n, 2)) (hn : n < L.length) (hl : L.set n (some (.int v)) = L') (hq : pc + 2 = q) (k : WFN Z a0 s0 K e A q L' st) : WFN Z a0 s0 K e A pc L (.int v :: st) :=
  fun x hx hk H locs ls hR hS hL => lv_istore C.x C.b d hL.has hn rfl (fun ls' h' => hq ▸ k x hx hk H locs ls' hR hS (hl ▸ hasL.of hn rfl hL.cat h'))
theorem n_astore_n (C : Cx Z cc nL own) {n : Fin 4} {v : Nat} {L' : List (Option Value)} (d : decode cc pc = .ok (.astore_n n, 1)) (hn : (n : Nat) < L.length) (hl : L.set n (some (rf (zG Z) v)) = L') (hq : pc + 1 = q) (k : WFN Z a0 s0 K e A q L' st) : WFN Z a0 s0 K e A pc L (rf (zG Z) v :: st) :=
  fun x hx hk H locs ls hR hS hL => lv_astore_n C.x C.b d rfl hL.has hn rfl (fun ls' h' => hq ▸ k x hx hk H locs ls' hR hS (hl ▸ hasL.of (v := rf (zG Z) v) hn rfl hL.cat h'))
theorem n_astore (C : Cx Z cc nL own) {n : Nat} {v : Nat} {L' : List (Option Value)} (d : decode cc pc = .ok (.astore n, 2)) (hn : n < L.length) (hl : L.set n (some (rf (zG Z) v)) = L') (hq : pc + 2 = q) (k : WFN Z a0 s0 K e A q L' st) : WFN Z a0 s0 K e A pc L (rf (zG Z) v :: st) :=
  fun x hx hk H locs ls hR hS hL => lv_astore C.x C.b d hL.has hn rfl (fun ls' h' => hq ▸ k x hx hk H locs ls' hR hS (hl ▸ hasL.of (v := rf (zG Z) v) hn rfl hL.cat h'))
theorem n_iinc (C : Cx Z cc nL own) {n : Nat} {a : Int} {x0 v : Int32} {L' : List (Option Value)} (d : decode cc pc = .ok (.iinc n a, 3)) (h0 : L[n]? = some (some (.int x0))) (hv : x0 + Int32.ofInt a = v) (hl : L.set n (some (.int v)) = L') (hq : pc + 3 = q) (k : WFN Z a0 s0 K e A q L' st) : WFN Z a0 s0 K e A pc L st := by
  intro x hx hk H locs ls hR hS hL
  have hn : n < L.length := (List.getElem?_eq_some_iff.mp h0).1
  obtain ⟨i, hi⟩ := List.getElem?_of_mem (enL_mem (q := (n, Value.int x0)).mpr h0)
  exact lv_iinc C.x C.b d hL.has hi hv hn rfl (fun ls' h' => hq ▸ k x hx hk H locs ls' hR hS (hl ▸ hasL.of hn rfl hL.cat h'))
theorem n_dup (C : Cx Z cc nL own) {v : Value} (d : decode cc pc = .ok (.dup, 1)) (hc : v.category = 1) (hq : pc + 1 = q) (k : WFN Z a0 s0 K e A q L (v :: v :: st)) : WFN Z a0 s0 K e A pc L (v :: st) :=
  fun r hr hk H locs ls hR hS hL => lv_dup C.x C.b d hc (hq ▸ k r hr hk H locs ls hR hS hL)
theorem n_goto (C : Cx Z cc nL own) {off : Int} {tgt : Nat} (d : decode cc pc = .ok (.goto off, 3)) (ht : (pc : Int) + off = (tgt : Int)) (k : WFN Z a0 s0 K e A tgt L st) : WFN Z a0 s0 K e A pc L st :=
  fun r hr hk H locs ls hR hS hL => lv_goto C.x C.b d ht (k r hr hk H locs ls hR hS hL)
theorem n_icmp_ge (C : Cx Z cc nL own) {x y : Int32} {off : Int} {tgt : Nat} {e1 e2 : Option R} {i0 : Decidable (y ≤ x)} (d : decode cc pc = .ok (.if_icmp .ge off, 3)) (ht : (pc : Int) + off = (tgt : Int)) (hq : pc + 3 = q) (kt : y ≤ x → WFN Z a0 s0 K e1 A tgt L st) (kf : ¬ (y ≤ x) → WFN Z a0 s0 K e2 A q L st) : WFN Z a0 s0 K (@ite _ (y ≤ x) i0 e1 e2) A pc L (.int y :: .int x :: st) :=
  fun r hr hk H locs ls hR hS hL => lv_icmp_ge C.x C.b d ht (fun c => kt c r (by rw [if_pos c] at hr; exact hr) hk H locs ls hR hS hL) (fun c => hq ▸ kf c r (by rw [if_neg c] at hr; exact hr) hk H locs ls hR hS hL)
theorem n_vret {x : R} (C : Cx Z cc nL own) {mc ms : Nat} (N : CN Z mc ms) (hK : K x → RetN Z cc mc ms A) (hg : gN A a0 s0 mc ms 0 0 = true) (d : decode cc pc = .ok (.return_, 1)) : WFN Z a0 s0 K (some x) A pc L [] := by
  intro y hy hk H locs ls hR hS hL
  cases hy
  simp only [gN, decide_eq_true_eq] at hg
  exact hK hk _ _ pc L (by omega) (by omega) d H locs ls hR hS hL
theorem n_new (C : Cx Z cc nL own) {mc ms : Nat} (N : CN Z mc ms) {Cn : String} {T : u_T} {ty : Nat → FieldType} {n ci idx : Nat} {f : AH → Option R} (hin : ∀ w ∈ u_ws Cn T n, w ∈ LT) (hty : ∀ k, k < n → parseFieldDescriptor (T k).2.2.1 = some (ty k)) (hc : vwCl[ci]? = some (Cn, T, n)) (hnf : nf ci = n)
    (hdef : ∀ j : Nat, j < n → (fk ci j = 0 ∧ defaultValue (ty j) = .int 0) ∨ (¬ fk ci j = 0 ∧ defaultValue (ty j) = .null)) (lnk : Cond.classLink own idx Cn ∈ LT) (inst : Cond.instantiable Cn n ∈ LT) (ini : Cond.initialized Cn ∈ LT) (d : decode cc pc = .ok (.new idx, 3)) (hq : pc + 3 = q)
    (kk : ∀ A' : AH, WFN Z a0 s0 K (f A') A' q L (rf (zG Z) A.length :: st)) : WFN Z a0 s0 K (gd (gN A a0 s0 mc ms 1 n) (bnd (A ++ [(0, ci, List.replicate n 0)]) f)) A pc L st := by
  intro x hx hk H locs ls hR hS hL
  obtain ⟨hg, hx⟩ := gd_some hx
  simp only [gN, decide_eq_true_eq] at hg
  have hts := C.ts
  have hKn := C.K.1 ci _ hc
  have hR0 := hR
  obtain ⟨hz, hP⟩ := hR
  refine W.newcK C.x C.b C.ow (hts _ lnk) (hts _ inst) (hts _ ini) rfl d (by show A.length - a0 + 1 ≤ (zR Z).cells; rw [N.1]; omega) (by show szA A - s0 + n ≤ (zR Z).slots; rw [N.2.1]; omega) hKn.2.1 rfl fun H1 kC hkC e1 z1 o1 => ?_
  have hR1 : RepA (zG Z) (A ++ [(0, ci, List.replicate n 0)]) H1 := by
    refine hR0.push z1 o1 ?_
    rw [← hz]
    refine ⟨_, hc, (u_born ty hts hin hKn hkC e1 hty).to fun j hj => ?_⟩
    simp only [vp_V, hnf]
    rw [List.getD_eq_getElem?_getD]
    simp only [List.getElem?_map, List.getElem?_range hj, Option.map_some, Option.getD_some, fvA]
    have h0 : (List.replicate n 0).getD j 0 = 0 := by rw [List.getD_eq_getElem?_getD, List.getElem?_replicate]; split <;> rfl
    rw [h0]
    rcases hdef j hj with ⟨h1, h2⟩ | ⟨h1, h2⟩
    · rw [if_pos h1, h2]; rfl
    · rw [if_neg h1, h2]; rfl
  have hS1 : va_S (Ab (zG Z)) (zs Z).heap H1 locs := ⟨Nat.le_trans hS.1 (by omega), fun x h1 h2 => (o1 x (Nat.lt_of_lt_of_le h1 hS.1)).trans (hS.2.1 x h1 h2), hS.2.2⟩
  have hk1 := kk (A ++ [(0, ci, List.replicate n 0)]) x hx hk H1 locs ls hR1 hS1 hL
  have c1 : (A ++ [((0, ci, List.replicate n 0) : AC)]).length - a0 = A.length - a0 + 1 := by rw [List.length_append]; simp; omega
  have c2 : szA (A ++ [((0, ci, List.replicate n 0) : AC)]) - s0 = szA A - s0 + n := by rw [szA_app]; simp only [szC, if_pos, hnf]; omega
  rw [c1, c2] at hk1
  subst hq
  have hz2 : H.size = (zG Z).1 + A.length := hz
  rw [hz2]
  exact hk1
theorem n_newarr (C : Cx Z cc nL own) {mc ms : Nat} (N : CN Z mc ms) {atype : ArrayType} {t n : Nat} {ty : FieldType} {v : Int32} {f : AH → Option R} (hty : newarray.typeOf atype = ty) (ht : (tysG (zG Z))[t]? = some ((zG Z).2.2.2 t, ty)) (hra : ∀ U cA, va_RA U cA ty → U.vm.findClass ("[" ++ ty.toString) = some cA)
    (hcell : ∀ cA, (cellA (zG Z) (t + 1, n, []) = .inl ((zG Z).2.2.2 t, n, cA) → vp_cell ((zG Z).2.2.2 t) (n, cA) = arrV ((zG Z).2.2.2 t) n (fun _ => defaultValue ty))) (hex : ∃ cA, cellA (zG Z) (t + 1, n, []) = .inl ((zG Z).2.2.2 t, n, cA))
    (harr : Cond.arrayClass ty ∈ LT) (hv0 : ¬ v < 0) (hv : v.toNatClampNeg = n) (hby : n * componentBytes ty ≤ 536870912) (d : decode cc pc = .ok (.newarray atype, 2)) (hq : pc + 2 = q)
    (kk : ∀ A' : AH, WFN Z a0 s0 K (f A') A' q L (rf (zG Z) A.length :: st)) : WFN Z a0 s0 K (gd (gN A a0 s0 mc ms 1 n) (bnd (A ++ [(t + 1, n, [])]) f)) A pc L (.int v :: st) := by
  intro x hx hk H locs ls hR hS hL
  obtain ⟨hg, hx⟩ := gd_some hx
  simp only [gN, decide_eq_true_eq] at hg
  have hts := C.ts
  have hR0 := hR
  obtain ⟨hz, hP⟩ := hR
  subst hty
  refine va_newaK C.x C.b (atype := atype) (hts _ harr) rfl d rfl hv0 hv hby (by show A.length - a0 + 1 ≤ (zR Z).cells; rw [N.1]; omega) (by show szA A - s0 + n ≤ (zR Z).slots; rw [N.2.1]; omega) rfl fun H1 cA e1 z1 o1 hAr hNm => ?_
  have hcA : cA = (zG Z).2.2.2 t := by
    have h1 := hra _ _ (C.K.2 t _ ht).2
    exact Option.some.inj (hNm.symm.trans h1)
  subst hcA
  have hR1 : RepA (zG Z) (A ++ [(t + 1, n, [])]) H1 := by
    refine hR0.push z1 o1 ?_
    rw [← hz]
    obtain ⟨ca, hca⟩ := hex
    rw [hca]
    show H1[H.size]? = some (vp_cell _ _)
    rw [hcell ca hca]
    exact e1
  have hS1 : va_S (Ab (zG Z)) (zs Z).heap H1 locs := ⟨Nat.le_trans hS.1 (by omega), fun x h1 h2 => (o1 x (Nat.lt_of_lt_of_le h1 hS.1)).trans (hS.2.1 x h1 h2), hS.2.2⟩
  have hk1 := kk (A ++ [(t + 1, n, [])]) x hx hk H1 locs ls hR1 hS1 hL
  have c1 : (A ++ [((t + 1, n, []) : AC)]).length - a0 = A.length - a0 + 1 := by rw [List.length_append]; simp; omega
  have c2 : szA (A ++ [((t + 1, n, []) : AC)]) - s0 = szA A - s0 + n := by rw [szA_app]; simp only [szC, Nat.succ_ne_zero, if_neg, not_false_eq_true]; omega
  rw [c1, c2] at hk1
  subst hq
  have hz2 : H.size = (zG Z).1 + A.length := hz
  rw [hz2]
  exact hk1
theorem n_newref (C : Cx Z cc nL own) {mc ms : Nat} (N : CN Z mc ms) {t n idx : Nat} {Cn : String} {v : Int32} {f : AH → Option R} (ht : (tysG (zG Z))[t + 4]? = some ((zG Z).2.2.2 (t + 4), .object Cn)) (lnk : Cond.classLink own idx Cn ∈ LT) (hov : Cond.arrayOver (.object Cn) ∈ LT)
    (hv0 : ¬ v < 0) (hv : v.toNatClampNeg = n) (hby : n * 4 ≤ 536870912) (d : decode cc pc = .ok (.anewarray idx, 3)) (hq : pc + 3 = q)
    (kk : ∀ A' : AH, WFN Z a0 s0 K (f A') A' q L (rf (zG Z) A.length :: st)) : WFN Z a0 s0 K (gd (gN A a0 s0 mc ms 1 n) (bnd (A ++ [(t + 5, n, List.replicate n 0)]) f)) A pc L (.int v :: st) := by
  intro x hx hk H locs ls hR hS hL
  obtain ⟨hg, hx⟩ := gd_some hx
  simp only [gN, decide_eq_true_eq] at hg
  have hts := C.ts
  have hR0 := hR
  obtain ⟨hz, hP⟩ := hR
  subst hv
  refine W.anew C.x C.b C.ow (hts _ lnk) (hts _ hov) rfl d rfl hv0 hby (by show A.length - a0 + 1 ≤ (zR Z).cells; rw [N.1]; omega) (by show szA A - s0 + _ ≤ (zR Z).slots; rw [N.2.1]; omega) fun cA kA comp f1 f2 f3 f4 => ?_
  generalize hH1 : H.push ({ cls := cA, slots := Array.replicate v.toNatClampNeg .null, vm := .none } : Cell) = H1
  have z1 : H1.size = H.size + 1 := by rw [← hH1, Array.size_push]
  have e1 : H1[H.size]? = some (arrV cA v.toNatClampNeg (fun _ => .null)) := by rw [← hH1, Array.getElem?_push_size, ← arrV_new]
  have o1 : ∀ q : Nat, q < H.size → H1[q]? = H[q]? := fun q hq => by rw [← hH1, Array.getElem?_push, if_neg (Nat.ne_of_lt hq)]
  have hcA : cA = (zG Z).2.2.2 (t + 4) := by
    obtain ⟨k9, c9, h1, h2, h3, h4⟩ := (C.K.2 (t + 4) _ ht).2
    exact Option.some.inj (f1.symm.trans h4)
  subst hcA
  have hR1 : RepA (zG Z) (A ++ [(t + 5, v.toNatClampNeg, List.replicate v.toNatClampNeg 0)]) H1 := by
    refine hR0.push z1 o1 ?_
    rw [← hz]
    show H1[H.size]? = some (vp_cell _ _)
    rw [e1, vp_cell_q]
    congr 2
    funext i
    have h0 : (List.replicate v.toNatClampNeg 0).getD i 0 = 0 := by rw [List.getD_eq_getElem?_getD, List.getElem?_replicate]; split <;> rfl
    show Value.null = va_rf (qA _ ((List.replicate _ 0).getD i 0))
    rw [h0]
    rfl
  have hS1 : va_S (Ab (zG Z)) (zs Z).heap H1 locs := ⟨Nat.le_trans hS.1 (by omega), fun x h1 h2 => (o1 x (Nat.lt_of_lt_of_le h1 hS.1)).trans (hS.2.1 x h1 h2), hS.2.2⟩
  have hk1 := kk (A ++ [(t + 5, v.toNatClampNeg, List.replicate v.toNatClampNeg 0)]) x hx hk H1 locs ls hR1 hS1 hL
  have c1 : (A ++ [((t + 5, v.toNatClampNeg, List.replicate v.toNatClampNeg 0) : AC)]).length - a0 = A.length - a0 + 1 := by rw [List.length_append]; simp; omega
  have c2 : szA (A ++ [((t + 5, v.toNatClampNeg, List.replicate v.toNatClampNeg 0) : AC)]) - s0 = szA A - s0 + v.toNatClampNeg := by rw [szA_app]; simp only [szC, Nat.succ_ne_zero, if_neg, not_false_eq_true]; omega
  rw [c1, c2] at hk1
  subst hq
  have hz2 : H.size = (zG Z).1 + A.length := hz
  rw [hz2]
  exact hk1
end NR
end
section
/-! the constructors' rows: fields, elements, calls -/
theorem sum_set : ∀ (l : List Nat) (k : Nat), (h : k < l.length) → (v : Nat) → v = l[k] → (l.set k v).sum = l.sum
  | [], _, h, _, _ => absurd h (Nat.not_lt_zero _)
  | a :: t, 0, _, v, e => by simp at e; simp [e]
  | a :: t, k + 1, h, v, e => by
    have := sum_set t k (by simpa using h) v (by simpa using e)
    simp [this]
theorem szA_set {A : AH} {k : Nat} {a : AC} (hk : k < A.length) (h : szC a = szC (A.getD k d0)) : szA (A.set k a) = szA A := by
  unfold szA
  rw [List.map_set]
  refine sum_set _ _ (by simpa using hk) _ ?_
  rw [h, List.getElem_map, List.getD_eq_getElem?_getD, List.getElem?_eq_getElem hk]
  rfl
theorem RepA.put {G : Gx} {A : AH} {H H1 : Heap} {k : Nat} {a : AC} (h : RepA G A H) (hk : k < A.length) (hz : H1.size = H.size) (ho : ∀ q : Nat, q ≠ G.1 + k → H1[q]? = H[q]?) (ha : va_at (Dg G) vwCl (G.1 + k, cellA G a) H1) : RepA G (A.set k a) H1 := by
  obtain ⟨h1, h2⟩ := h
  refine ⟨by rw [hz, h1, List.length_set], ?_⟩
  rw [← wdA_set hk rfl]
  exact h2.set wdA_apart (wdA_get hk) ha ho
theorem fvA_set {G : Gx} {ci j code : Nat} {fs : List Nat} {v : Value} (hj : j < fs.length) (hl : fs.length = nf ci) (hv : fvA G ci j code = v) : ((List.range (nf ci)).map (fun b => fvA G ci b (fs.getD b 0))).set j v = (List.range (nf ci)).map (fun b => fvA G ci b ((fs.set j code).getD b 0)) := by
  apply List.ext_getElem?
  intro b
  by_cases h : b = j
  · subst h
    rw [List.getElem?_set_self (by simp; omega)]
    have : b < nf ci := by omega
    simp [this, hj, hv, List.getD_eq_getElem?_getD]
  · rw [List.getElem?_set_ne (Ne.symm h)]
    by_cases hb : b < nf ci
    · simp [hb, List.getD_eq_getElem?_getD, List.getElem?_set_ne (Ne.symm h)]
    · rw [List.getElem?_eq_none (by simp; omega), List.getElem?_eq_none (by simp; omega)]
section NR2
variable {Z : Zx} {cc : ByteArray} {nL : Nat} {own : String} {R : Type} {K : R → Prop} {e : Option R} {A : AH} {a0 s0 pc q : Nat} {L : List (Option Value)} {st : List Value}
theorem n_put (C : Cx Z cc nL own) {Cn : String} {T : u_T} {N ci idx k j code : Nat} {ty0 : Nat → FieldType} {ty : FieldType} {v : Value} {f : AH → Option R} (hin : ∀ w ∈ u_ws Cn T N, w ∈ LT) (hty : ∀ k, k < N → parseFieldDescriptor (T k).2.2.1 = some (ty0 k)) (hnm : ∀ a, a < N → ∀ b, b < N → a ≠ b → (T a).2.1 ≠ (T b).2.1)
    (hc : vwCl[ci]? = some (Cn, T, N)) (hj : j < nf ci) (hN : j < N) (lnk : Cond.fieldLink own idx (T j).1 (T j).2.1 (T j).2.2.1 ∈ LT) (hfin : (T j).2.2.2 = false ∨ ((T j).2.2.2 = true ∧ (zh Z).name = "<init>" ∧ (T j).1 = own)) (hd : parseFieldDescriptor (T j).2.2.1 = some ty)
    (hn : narrow ty v = v) (hft : fits ty v = true) (hv : fvA (zG Z) ci j code = v) (d : decode cc pc = .ok (.putfield idx, 3)) (hq : pc + 3 = q) (kk : ∀ A' : AH, WFN Z a0 s0 K (f A') A' q L st) : WFN Z a0 s0 K (gd (gO A k ci) (bnd (setA A k j code) f)) A pc L (v :: rf (zG Z) k :: st) := by
  intro x hx hx2 H locs ls hR hS hL
  obtain ⟨hg, hx⟩ := gd_some hx
  obtain ⟨hk, hA, hlen⟩ := gO_of hg
  have hts := C.ts
  have hap := va_apart (own := own) hts hin ty0 hty hnm C.K hc
  have hR0 := hR
  obtain ⟨hz, hP⟩ := hR
  have he : (wdA (zG Z) A)[k]? = some ((zG Z).1 + k, .inr (ci, (List.range (nf ci)).map (fun b => fvA (zG Z) ci b ((fsA A k).getD b 0)))) := by
    rw [wdA_get hk, hA]
    rfl
  obtain ⟨r, h1, cell, q1, q2, q3, q4⟩ := hP k _ he
  have hr : r = (Cn, T, N) := Option.some.inj (h1.symm.trans hc)
  subst hr
  obtain ⟨hSl, hfc, kC, hkC, hkind⟩ := C.K.1 ci _ hc
  obtain ⟨cf, kf, fi, fd, hi, hsl⟩ := hSl j hN
  have hst := (u_facts hfc hkC (u_lays hts hin hN) hi).1
  have after : ∀ H' : Heap, H'[(zG Z).1 + k]? = some (cell.setSlot fd.slot v) → H'.size = H.size → (∀ q, q ≠ (zG Z).1 + k → H'[q]? = H[q]?) → W (zp Z) (zl Z) (ze Z) (zR Z) (zs Z) (zm Z) (za Z) (zb Z) (zh Z) (zc Z) H' (locs ++ [⟨(zG Z).1 + k, fd.slot⟩]) (A.length - a0) (szA A - s0) Z.2.2.2.2 (F0 (zm Z) (pc + 3) ls st) := by
    intro H' e1 e2 e3
    have hR1 : RepA (zG Z) (setA A k j code) H' := by
      refine hR0.put hk e2 e3 ?_
      rw [hA]
      show va_at _ _ (_, .inr (ci, _)) _
      refine ⟨_, hc, t_OB.to (V := updV (vp_V ((List.range (nf ci)).map (fun b => fvA (zG Z) ci b ((fsA A k).getD b 0)))) j v) ⟨_, e1, q2, q3, ?_⟩ (fun b _ => ?_)⟩
      · rw [hsl]
        exact t_set q4 hap hN v
      · rw [vp_updV_set (by simpa using hj), fvA_set (code := code) (by omega) hlen hv]
    have hk1 := kk (setA A k j code) x hx hx2 H' (locs ++ [⟨(zG Z).1 + k, fd.slot⟩]) ls hR1 (hS.put e2 e3 (Nat.le_add_right _ _)) hL
    have c1 : (setA A k j code).length = A.length := List.length_set
    have c2 : szA (setA A k j code) = szA A := szA_set hk (by simp only [szC])
    rw [c1, c2] at hk1
    subst hq
    exact hk1
  rcases hfin with hfin | ⟨hfin, hin2, hdecl⟩
  · have hlay := hts _ (hin _ (u_in_lay hN))
    unfold u_lay at hlay
    rw [if_neg (by rw [hfin]; decide)] at hlay
    have h6 := u_store hfc hkC hkind hlay hi hd hn hft
    exact W.putK C.x C.b (f := fd) ⟨C.ow, hts _ lnk, ⟨_, _, _, hi⟩, hst⟩ (by rw [q2]; exact h6) q1 q3 (by rw [hsl]; exact k2_hasslot (q4 j hN)) rfl rfl d after
  · have hlay := hts _ (hin _ (u_in_lay hN))
    unfold u_lay at hlay
    rw [if_pos hfin] at hlay
    have hcf : (zm Z).cls = cf := by
      obtain ⟨_, _, c', _, _, _, -, -, hf', -, -, -, hown2, -⟩ := Cond.laysFinal_spec hlay
      have e1 : c' = cf := by have := hi.symm.trans hf'; simp at this; exact this.1.symm
      rw [hdecl] at hown2
      rw [← e1]; exact Option.some.inj (C.ow.symm.trans hown2)
    have h6 := u_fits hfc hkC hkind (Or.inr hlay) hi hd hn hft
    exact W.putFinK C.x C.b C.ow (hts _ lnk) hi hst hcf hin2 (by rw [q2]; exact h6) q1 q3 (by rw [hsl]; exact k2_hasslot (q4 j hN)) rfl rfl d after
/-- what a reference field holds -/
def fA (A : AH) (k j : Nat) : Nat := (fsA A k).getD j 0 - 1
def gF (A : AH) (k ci j : Nat) : Bool := gO A k ci && decide (0 < (fsA A k).getD j 0)
theorem n_getr (C : Cx Z cc nL own) {Cn : String} {T : u_T} {N ci idx k j : Nat} (hin : ∀ w ∈ u_ws Cn T N, w ∈ LT) (hc : vwCl[ci]? = some (Cn, T, N)) (hj : j < nf ci) (hN : j < N) (hfk : ¬ fk ci j = 0)
    (lnk : Cond.fieldLink own idx (T j).1 (T j).2.1 (T j).2.2.1 ∈ LT) (d : decode cc pc = .ok (.getfield idx, 3)) (hq : pc + 3 = q) (kk : WFN Z a0 s0 K e A q L (rf (zG Z) (fA A k j) :: st)) : WFN Z a0 s0 K (gd (gF A k ci j) e) A pc L (rf (zG Z) k :: st) := by
  intro x hx hx2 H locs ls hR hS hL
  obtain ⟨hg, hx⟩ := gd_some hx
  obtain ⟨hg, hpos⟩ := Bool.and_eq_true_iff.mp hg
  have hpos := of_decide_eq_true hpos
  obtain ⟨hk, hA, hlen⟩ := gO_of hg
  have hR0 := hR
  obtain ⟨hz, hP⟩ := hR
  have he : (wdA (zG Z) A)[k]? = some ((zG Z).1 + k, .inr (ci, (List.range (nf ci)).map (fun b => fvA (zG Z) ci b ((fsA A k).getD b 0)))) := by
    rw [wdA_get hk, hA]
    rfl
  refine va_get (D := Dg (zG Z)) (v := rf (zG Z) (fA A k j)) C.x C.b C.ts hin C.ow C.K hP k he hc j hN (C.ts _ lnk) (fun _ h => h) ?_ d (hq ▸ kk x hx hx2 H locs ls hR0 hS hL)
  simp only [List.getElem?_map, List.getElem?_range hj, Option.map_some, fvA, if_neg hfk, if_neg (Nat.ne_of_gt hpos)]
  rfl
theorem cellA_q {G : Gx} {t n : Nat} {fs : List Nat} : cellA G (t + 5, n, fs) = .inl (G.2.2.2 (t + 4), n, .inr (.inr (.inr (.inr (fun i => qA G (fs.getD i 0)))))) := rfl
theorem n_aast (C : Cx Z cc nL own) {k n t v ci : Nat} {r : vw_C} {i : Int32} {f : AH → Option R} (ht : (tysG (zG Z))[t + 4]? = some ((zG Z).2.2.2 (t + 4), .object r.1)) (hc : vwCl[ci]? = some r) (d : decode cc pc = .ok (.aastore, 1)) (hq : pc + 1 = q)
    (kk : ∀ A' : AH, WFN Z a0 s0 K (f A') A' q L st) : WFN Z a0 s0 K (gd (gR A k t n && (inb i n && gO A v ci)) (bnd (setA A k i.toNatClampNeg (v + 1)) f)) A pc L (rf (zG Z) v :: .int i :: rf (zG Z) k :: st) := by
  intro x hx hx2 H locs ls hR hS hL
  obtain ⟨hg, hx⟩ := gd_some hx
  obtain ⟨hg, hg2⟩ := Bool.and_eq_true_iff.mp hg
  obtain ⟨hib, hgv⟩ := Bool.and_eq_true_iff.mp hg2
  obtain ⟨hk, hA, hlen⟩ := gR_of hg
  obtain ⟨hkv, hAv, -⟩ := gO_of hgv
  have hR0 := hR
  obtain ⟨hz, hP⟩ := hR
  have hin := inb_in hib
  have hlt : i.toNatClampNeg < n := Nat.not_le.mp fun q => hin (Or.inr q)
  have h0 : ¬ i < 0 := fun q => hin (Or.inl q)
  have ha : (wdA (zG Z) A)[k]? = some ((zG Z).1 + k, .inl ((zG Z).2.2.2 (t + 4), n, .inr (.inr (.inr (.inr (fun i => qA (zG Z) ((fsA A k).getD i 0))))))) := by rw [wdA_get hk, hA, cellA_q]
  have hv : (wdA (zG Z) A)[v]? = some ((zG Z).1 + v, .inr (ci, (List.range (nf ci)).map (fun b => fvA (zG Z) ci b ((fsA A v).getD b 0)))) := by
    rw [wdA_get hkv, hAv]
    rfl
  obtain ⟨r', hr', cellV, g1, g2, g3, -⟩ := hP v _ hv
  have hcls := (C.K.1 ci r hc).2
  obtain ⟨kA, comp, k1, k2, k3, -⟩ := (C.K.2 (t + 4) _ ht).2
  have hcomp : comp = (Dg (zG Z)).1 ci := Option.some.inj (k3.symm.trans hcls.1)
  subst hcomp
  obtain ⟨kC, hkC, -⟩ := hcls.2
  refine W.aast C.x C.b (hP k _ ha) (fun q h => by cases h) (fun h => by cases h) k1 k2 rfl hkC ⟨h0, by show _ < (arrV _ _ _).slots.size; rw [arrV_size]; exact hlt⟩ g1 (fun q h => by rw [g3] at h; cases h) (by rw [g2]; exact hkC) (by rw [g2]; exact va_assign hcls) rfl rfl d fun H' e1 e2 e3 => ?_
  have hR1 : RepA (zG Z) (setA A k i.toNatClampNeg (v + 1)) H' := by
    refine hR0.put hk e2 e3 ?_
    rw [hA, cellA_q]
    show H'[(zG Z).1 + k]? = some (vp_cell _ _)
    rw [e1, vp_cell_q, vp_cell_q, arrV_store]
    congr 2
    funext b
    by_cases hb : b = i.toNatClampNeg
    · subst hb
      rw [List.getD_eq_getElem?_getD, List.getElem?_set_self (by omega)]
      simp [updV, va_rf, qA]
    · simp [updV, hb, List.getD_eq_getElem?_getD, List.getElem?_set_ne (Ne.symm hb)]
  have hk1 := kk (setA A k i.toNatClampNeg (v + 1)) x hx hx2 H' (locs ++ [⟨(zG Z).1 + k, i.toNatClampNeg⟩]) ls hR1 (hS.put e2 e3 (Nat.le_add_right _ _)) hL
  have c1 : (setA A k i.toNatClampNeg (v + 1)).length = A.length := List.length_set
  have c2 : szA (setA A k i.toNatClampNeg (v + 1)) = szA A := szA_set hk (by simp only [szC])
  rw [c1, c2] at hk1
  subst hq
  exact hk1
theorem n_obj (C : Cx Z cc nL own) {FR LO idx k : Nat} (hR : RM Z FR LO) (lnk : Cond.methodLink own idx Lib.objectInit ∈ LT) (m1 : Cond.instanceMethod Lib.objectInit ∈ LT) (m2 : Cond.code Lib.objectInit ⟨#[0xb1]⟩ 1 none ∈ LT) (hL : L.length = nL) (hfr : 1 ≤ FR) (hlo : 12 ≤ LO)
    (d : decode cc pc = .ok (.invokespecial idx, 3)) (hq : pc + 3 = q) (kk : WFN Z a0 s0 K e A q L []) : WFN Z a0 s0 K e A pc L [rf (zG Z) k] :=
  fun x hx hx2 H locs ls hRp hS hLs => W.objInit C.x C.b C.ow (C.ts _ lnk) (C.ts _ m1) (C.ts _ m2) rfl (by rw [C.ml]; show ls.size = nL; rw [hLs.1, hL]) rfl d (by rw [hR.1]; exact hfr) (by rw [hR.2]; show 0 + 0 + 12 ≤ LO; omega) (hq ▸ kk x hx hx2 H locs ls hRp hS hLs)
end NR2
/-! contracts of constructors -/
def FUN : Nat := 64
def rmN (fr lo mc ms : Nat) : Room := { frames := fr, cells := mc, slots := ms, locals := lo }
def StA (G : Gx) (A : AH) (U : State) : Prop := RepA G A U.heap ∧ KK G U
def QcA (G : Gx) (A' : AH) : Array Value → State → Outcome → State → Prop := fun _ st o t => (o = .returned none ∧ RepA G A' t.heap) ∧ va_F (Ab G) st t
def CtN (l : Launch) (G : Gx) (y : MethodName) (cc : ByteArray) (maxL fr lo mc ms : Nat) (av : List Value) (A A' : AH) : Prop :=
  Met l y [.code y cc maxL none] (rmN fr lo mc ms) (va_Pc av (StA G A)) (QcA G A') mc ms (Ab G)
theorem StA.blind {G : Gx} {A : AH} {av : List Value} : FrameBlind (va_Pc av (StA G A)) := by
  intro a U g mk h
  obtain ⟨h1, h2, h3⟩ := h
  exact ⟨h1, h2, h3.go (s := U) (locs := []) (State.WarmedH.refl U) va_S.rf rfl⟩
theorem CtN.of {l : Launch} {G : Gx} {y : MethodName} {cc : ByteArray} {maxL fr lo mc ms : Nat} {av : List Value} {A A' : AH} (hy : plainName y.cls = true) (hyn : y.name = "<init>") (hcat : (av.all fun v => v.category == 1) = true) (hlen : av.length ≤ maxL)
    (body : ∀ Z : Zx, zG Z = G → zl Z = l → Cx Z cc maxL y.cls → CN Z mc ms → RM Z fr lo → RetN Z cc mc ms A' → WN Z A.length (szA A) A 0 (av.map some ++ List.replicate (maxL - av.length) none) []) : CtN l G y cc maxL fr lo mc ms av A A' := by
  have hcat : ∀ v ∈ av, v.category = 1 := fun v hv => by simpa using List.all_eq_true.mp hcat v hv
  refine Met.ofW (cc := cc) (maxL := maxL) (ret := none) hy rfl ?_
  intro p e s m args below meth c s₁ B hml hv
  obtain ⟨rfl, hR, hKK⟩ := hv
  have hown : s.vm.findClass y.cls = some m.cls := findClass_of_methodNamed B.named
  have hin : meth.name = "<init>" := (name_of_methodNamed B.named B.method).1.trans hyn
  have hb : c.code = cc := B.bytes
  have hr := B.returns
  have hx := B.exec
  have hlocks := B.notSynchronized
  have h0 : G.1 ≤ s.heap.size := by rw [hR.1]; exact Nat.le_add_right _ _
  rw [lg_entry_eq]
  have hb2 := body ((p, l, e, rmN fr lo mc ms, s, m, av.toArray, below, meth, c), G, 0, 0, MQ below (QcA G A') av.toArray s mc ms (Ab G)) rfl rfl ⟨B.exec, B.bytes, hml, hown, B.notSynchronized, hKK, Nat.zero_le _, Nat.zero_le _⟩ ⟨rfl, rfl, h0, hin⟩ ⟨rfl, rfl⟩ ?_ s.heap [] _ hR va_S.rf (hasL.entry av maxL hcat hlen)
  · rw [Nat.sub_self, Nat.sub_self] at hb2
    exact hb2
  · intro c9 n9 pc L l1 l2 d H locs ls hR hS hL
    exact W.widen (k := mc) (n := ms) l1 l2 (W.vret hx hb hr (fun t ht hW => ⟨⟨rfl, by rw [ht]; exact hR⟩, hS.F ht⟩) hS.2.2 d)
def gC (A A' : AH) (a0 s0 mc ms dc dn : Nat) : Bool := decide (a0 ≤ A.length ∧ s0 ≤ szA A ∧ A'.length = A.length + dc ∧ szA A' = szA A + dn ∧ A.length + dc ≤ a0 + mc ∧ szA A + dn ≤ s0 + ms)
abbrev MIp (y : MethodName) (bytes : ByteArray) (maxL n : Nat) : Prop :=
  Cond.instanceMethod y ∈ LT ∧ Cond.initialized y.cls ∈ LT ∧ Cond.code y bytes maxL none ∈ LT ∧ y.name = "<init>" ∧
  (y.cls ≠ "java/lang/invoke/MethodHandle" ∧ y.cls ≠ "java/lang/invoke/VarHandle" ∧ (parseMethodDescriptor y.desc).map (fun d => d.parameters.length) = some n)
section NC
variable {Z : Zx} {cc : ByteArray} {nL : Nat} {own : String} {R : Type} {K : R → Prop} {e : Option R} {A : AH} {a0 s0 pc q : Nat} {L : List (Option Value)} {st : List Value}
theorem wn_run {A' : AH} {H : Heap} {locs : List Loc} {ls : Array Slot} {st0 : List Value} {c n dc dn : Nat} (hS : va_S (Ab (zG Z)) (zs Z).heap H locs) (hL : hasL ls L)
    (hr : va_Run (zp Z) (zl Z) (ze Z) (zR Z) (zs Z) (zm Z) (za Z) (zb Z) (zh Z) (zc Z) H locs c n dc dn (F0 (zm Z) pc ls st0) st (fun st o t => (o = .returned none ∧ RepA (zG Z) A' t.heap) ∧ va_F (Ab (zG Z)) st t) (Ab (zG Z)))
    (k : ∀ (H : Heap) (locs : List Loc) (ls : Array Slot), RepA (zG Z) A' H → va_S (Ab (zG Z)) (zs Z).heap H locs → hasL ls L → WZ (Zb Z (c + dc) (n + dn)) H locs (F0 (zm Z) (pc + 3) ls st)) : WZ (Zb Z c n) H locs (F0 (zm Z) pc ls st0) := by
  intro T hT X
  obtain ⟨v, st₀, t, T', Lx, h0, X', hLx, e1, e2, ⟨⟨hv, hst⟩, hF⟩, go⟩ := hr T hT X
  have hv' : v = none := by injection hv
  subst hv'
  obtain ⟨hz, hk⟩ := hF
  rw [h0] at hz hk
  obtain ⟨t2, a1, b1⟩ := k T'.heap (locs ++ Lx) ls (by rw [e1]; exact hst)
    ⟨Nat.le_trans hS.1 (by rw [e1]; exact hz), fun q h1 h2 => by rw [e1, hk q (Nat.lt_of_lt_of_le h1 hS.1) h2]; exact hS.2.1 q h1 h2, fun q hq => by
      rcases List.mem_append.mp hq with h | h
      · exact hS.2.2 q h
      · exact hLx q h⟩ hL T' rfl X'
  exact ⟨t2, go t2 a1, b1⟩
theorem n_callI (C : Cx Z cc nL own) {FR LO mc ms : Nat} (hR : RM Z FR LO) (N : CN Z mc ms) {idx maxL fr lo n k dc dn : Nat} {y : MethodName} {bytes : ByteArray} {As st0 : List Value} {f : Option AH} {rest : AH → Option R}
    (hc : ∀ A', f = some A' → CtN (zl Z) (zG Z) y bytes maxL fr lo dc dn (rf (zG Z) k :: As) A A') (mv : MIp y bytes maxL n) (lnk : Cond.methodLink own idx y ∈ LT) (hn : As.length = n) (hfr : fr + 1 ≤ FR ∧ 8 + (maxL + 11) + lo ≤ LO)
    (hroom : (st.map fun v => v.category).sum ≤ 8) (hst : st0 = As.reverse ++ rf (zG Z) k :: st) (hL : L.length = nL) (d : decode cc pc = .ok (.invokespecial idx, 3)) (hq : pc + 3 = q) (kk : ∀ A', WFN Z a0 s0 K (rest A') A' q L st) : WFN Z a0 s0 K (Option.bind f fun A' => gd (gC A A' a0 s0 mc ms dc dn) (rest A')) A pc L st0 := by
  intro r hr hkr H locs ls hRp hS hLs
  obtain ⟨A', h1, h2⟩ := Option.bind_eq_some_iff.mp hr
  obtain ⟨hg, h2⟩ := gd_some h2
  simp only [gC, decide_eq_true_eq] at hg
  subst hst
  obtain ⟨mi, mini, mcode, hyn, md⟩ := mv
  have hts := C.ts
  have hkk := kk A' r h2 hkr
  have c1 : A'.length - a0 = A.length - a0 + dc := by omega
  have c2 : szA A' - s0 = szA A - s0 + dn := by omega
  unfold WN at hkk
  rw [c1, c2] at hkk
  subst hq
  refine wn_run (dc := dc) (dn := dn) hS hLs (va_runI (As := As) (rest := st) ⟨C.x, C.b, C.ml, C.ow, hts⟩ (hc A' h1)
    ⟨callB_of n hts (GoodIn.one mcode rfl) rfl rfl rfl (hts _ mini) (hts _ lnk) md (by rw [hR.1, hR.2]; exact hfr), hyn, hts _ mi⟩
    ⟨StA.blind, fun U hU hW => ⟨rfl, by rw [hU]; exact hRp, C.kk.go hW hS hU⟩⟩ rfl hn (by rw [hLs.1]; exact hL) rfl (lv_room hroom) d ⟨by show A.length - a0 + dc ≤ (zR Z).cells; rw [N.1]; omega, by show szA A - s0 + dn ≤ (zR Z).slots; rw [N.2.1]; omega⟩) hkk
theorem n_callIN (C : Cx Z cc nL own) {FR LO mc ms : Nat} (hR : RM Z FR LO) (N : CN Z mc ms) {idx maxL fr lo n k dc dn : Nat} {y : MethodName} {host : String} {bytes : ByteArray} {As st0 : List Value} {f : Option AH} {rest : AH → Option R}
    (hc : ∀ A', f = some A' → CtN (zl Z) (zG Z) y bytes maxL fr lo dc dn (rf (zG Z) k :: As) A A') (mv : MIp y bytes maxL n) (lnk : Cond.methodLinkNest own idx y host ∈ LT) (hn : As.length = n) (hfr : fr + 1 ≤ FR ∧ 8 + (maxL + 11) + lo ≤ LO)
    (hroom : (st.map fun v => v.category).sum ≤ 8) (hst : st0 = As.reverse ++ rf (zG Z) k :: st) (hL : L.length = nL) (d : decode cc pc = .ok (.invokespecial idx, 3)) (hq : pc + 3 = q) (kk : ∀ A', WFN Z a0 s0 K (rest A') A' q L st) : WFN Z a0 s0 K (Option.bind f fun A' => gd (gC A A' a0 s0 mc ms dc dn) (rest A')) A pc L st0 := by
  intro r hr hkr H locs ls hRp hS hLs
  obtain ⟨A', h1, h2⟩ := Option.bind_eq_some_iff.mp hr
  obtain ⟨hg, h2⟩ := gd_some h2
  simp only [gC, decide_eq_true_eq] at hg
  subst hst
  obtain ⟨mi, mini, mcode, hyn, md⟩ := mv
  have hts := C.ts
  have hkk := kk A' r h2 hkr
  have c1 : A'.length - a0 = A.length - a0 + dc := by omega
  have c2 : szA A' - s0 = szA A - s0 + dn := by omega
  unfold WN at hkk
  rw [c1, c2] at hkk
  subst hq
  refine wn_run (dc := dc) (dn := dn) hS hLs (va_runIN (As := As) (rest := st) (host := host) ⟨C.x, C.b, C.ml, C.ow, hts⟩ (hc A' h1)
    ⟨va_cnB n hts (GoodIn.one mcode rfl) rfl rfl rfl (va_Nw.of rfl (hts _ lnk)) (hts _ mini) md (by rw [hR.1, hR.2]; exact hfr), hyn, hts _ mi⟩
    ⟨StA.blind, fun U hU hW => ⟨rfl, by rw [hU]; exact hRp, C.kk.go hW hS hU⟩⟩ rfl hn (by rw [hLs.1]; exact hL) rfl (lv_room hroom) d ⟨by show A.length - a0 + dc ≤ (zR Z).cells; rw [N.1]; omega, by show szA A - s0 + dn ≤ (zR Z).slots; rw [N.2.1]; omega⟩) hkk
theorem n_loopF {α β : Type} {body : α → Option (α ⊕ β)} {ah : α → AH} {lo : α → List (Option Value)} {a : α} {rest : β → Option R} {E : β → Prop} (hb : ∀ a, WFN Z a0 s0 (loopK (fun a => WN Z a0 s0 (ah a) pc (lo a) []) E) (body a) (ah a) pc (lo a) [])
    (hx : ∀ b x, rest b = some x → K x → E b) : WFN Z a0 s0 K (Option.bind (loopF body FUN a) rest) (ah a) pc (lo a) [] := by
  intro x hx1 hk
  obtain ⟨b, h1, h2⟩ := Option.bind_eq_some_iff.mp hx1
  exact w_loop (hd := fun a => WN Z a0 s0 (ah a) pc (lo a) []) (E := E) (fun a y h h' => hb a y h h') FUN a b h1 (hx b x h2 hk)
end NC
end
