section
-- ===== PART A: goes FIRST, ahead of the names: the tables' words, and 'selects' of the private methods out of them =====
/-- a private method of a class that the tables say can be made, by its rows of tables_1 -/
def lw_okq (q : MethodName × Nat) : Prop := (q.1.cls ≠ "java/lang/invoke/MethodHandle" ∧ q.1.cls ≠ "java/lang/invoke/VarHandle") ∧ Cond.instantiable q.1.cls q.2 ∈ tables_1 ∧ Cond.privateMethod q.1 ∈ tables_1 ∧ Cond.instanceMethod q.1 ∈ tables_1
theorem lw_p0 : lw_okq (⟨"ClassAnswers", "isBox", "(I)Z"⟩, 12) := ⟨⟨by decide +kernel, by decide +kernel⟩, List.mem_of_getElem? (i := 15) (by decide +kernel), List.mem_of_getElem? (i := 272) (by decide +kernel), List.mem_of_getElem? (i := 273) (by decide +kernel)⟩
theorem lw_p1 : lw_okq (⟨"ClassAnswers$Question", "isOrder", "(I)Z"⟩, 4) := ⟨⟨by decide +kernel, by decide +kernel⟩, List.mem_of_getElem? (i := 25) (by decide +kernel), List.mem_of_getElem? (i := 321) (by decide +kernel), List.mem_of_getElem? (i := 322) (by decide +kernel)⟩
theorem lw_p2 : lw_okq (⟨"ClassAnswers", "isQuiet", "()Z"⟩, 12) := ⟨⟨by decide +kernel, by decide +kernel⟩, List.mem_of_getElem? (i := 15) (by decide +kernel), List.mem_of_getElem? (i := 333) (by decide +kernel), List.mem_of_getElem? (i := 334) (by decide +kernel)⟩
theorem lw_p3 : lw_okq (⟨"ClassAnswers", "isTrying", "(LClassAnswers$Box;)Z"⟩, 12) := ⟨⟨by decide +kernel, by decide +kernel⟩, List.mem_of_getElem? (i := 15) (by decide +kernel), List.mem_of_getElem? (i := 337) (by decide +kernel), List.mem_of_getElem? (i := 338) (by decide +kernel)⟩
theorem lw_p4 : lw_okq (⟨"ClassAnswers", "passTick", "()V"⟩, 12) := ⟨⟨by decide +kernel, by decide +kernel⟩, List.mem_of_getElem? (i := 15) (by decide +kernel), List.mem_of_getElem? (i := 357) (by decide +kernel), List.mem_of_getElem? (i := 358) (by decide +kernel)⟩
theorem lw_p5 : lw_okq (⟨"ClassAnswers", "tryBothRoads", "(I)V"⟩, 12) := ⟨⟨by decide +kernel, by decide +kernel⟩, List.mem_of_getElem? (i := 15) (by decide +kernel), List.mem_of_getElem? (i := 361) (by decide +kernel), List.mem_of_getElem? (i := 362) (by decide +kernel)⟩
theorem lw_p6 : lw_okq (⟨"ClassAnswers$Post", "move", "(II)V"⟩, 7) := ⟨⟨by decide +kernel, by decide +kernel⟩, List.mem_of_getElem? (i := 48) (by decide +kernel), List.mem_of_getElem? (i := 381) (by decide +kernel), List.mem_of_getElem? (i := 382) (by decide +kernel)⟩
theorem lw_p7 : lw_okq (⟨"ClassAnswers", "isShown", "()Z"⟩, 12) := ⟨⟨by decide +kernel, by decide +kernel⟩, List.mem_of_getElem? (i := 15) (by decide +kernel), List.mem_of_getElem? (i := 402) (by decide +kernel), List.mem_of_getElem? (i := 403) (by decide +kernel)⟩
theorem lw_p8 : lw_okq (⟨"ClassAnswers", "countAnswered", "()I"⟩, 12) := ⟨⟨by decide +kernel, by decide +kernel⟩, List.mem_of_getElem? (i := 15) (by decide +kernel), List.mem_of_getElem? (i := 406) (by decide +kernel), List.mem_of_getElem? (i := 407) (by decide +kernel)⟩
theorem lw_p9 : lw_okq (⟨"ClassAnswers", "areResultsShown", "(I)Z"⟩, 12) := ⟨⟨by decide +kernel, by decide +kernel⟩, List.mem_of_getElem? (i := 15) (by decide +kernel), List.mem_of_getElem? (i := 414) (by decide +kernel), List.mem_of_getElem? (i := 415) (by decide +kernel)⟩
theorem lw_p10 : lw_okq (⟨"ClassAnswers$Numbers", "putInOrder", "(I)V"⟩, 4) := ⟨⟨by decide +kernel, by decide +kernel⟩, List.mem_of_getElem? (i := 108) (by decide +kernel), List.mem_of_getElem? (i := 427) (by decide +kernel), List.mem_of_getElem? (i := 428) (by decide +kernel)⟩
theorem lw_p11 : lw_okq (⟨"ClassAnswers$Numbers", "lesserMiddle", "()I"⟩, 4) := ⟨⟨by decide +kernel, by decide +kernel⟩, List.mem_of_getElem? (i := 108) (by decide +kernel), List.mem_of_getElem? (i := 431) (by decide +kernel), List.mem_of_getElem? (i := 432) (by decide +kernel)⟩
theorem lw_p12 : lw_okq (⟨"ClassAnswers$Numbers", "off", "(LClassAnswers$Box;)I"⟩, 4) := ⟨⟨by decide +kernel, by decide +kernel⟩, List.mem_of_getElem? (i := 108) (by decide +kernel), List.mem_of_getElem? (i := 435) (by decide +kernel), List.mem_of_getElem? (i := 436) (by decide +kernel)⟩
theorem lw_p13 : lw_okq (⟨"ClassAnswers$Joiner", "countPairs", "([LClassAnswers$Box;II)V"⟩, 4) := ⟨⟨by decide +kernel, by decide +kernel⟩, List.mem_of_getElem? (i := 129) (by decide +kernel), List.mem_of_getElem? (i := 457) (by decide +kernel), List.mem_of_getElem? (i := 458) (by decide +kernel)⟩
theorem lw_p14 : lw_okq (⟨"ClassAnswers$Joiner", "addPairs", "(II)V"⟩, 4) := ⟨⟨by decide +kernel, by decide +kernel⟩, List.mem_of_getElem? (i := 129) (by decide +kernel), List.mem_of_getElem? (i := 462) (by decide +kernel), List.mem_of_getElem? (i := 463) (by decide +kernel)⟩
theorem lw_p15 : lw_okq (⟨"ClassAnswers$Joiner", "layOut", "(II)V"⟩, 4) := ⟨⟨by decide +kernel, by decide +kernel⟩, List.mem_of_getElem? (i := 129) (by decide +kernel), List.mem_of_getElem? (i := 469) (by decide +kernel), List.mem_of_getElem? (i := 470) (by decide +kernel)⟩
def lw_privs_1 : List (MethodName × Nat) := [(⟨"ClassAnswers", "isBox", "(I)Z"⟩, 12), (⟨"ClassAnswers$Question", "isOrder", "(I)Z"⟩, 4), (⟨"ClassAnswers", "isQuiet", "()Z"⟩, 12), (⟨"ClassAnswers", "isTrying", "(LClassAnswers$Box;)Z"⟩, 12), (⟨"ClassAnswers", "passTick", "()V"⟩, 12), (⟨"ClassAnswers", "tryBothRoads", "(I)V"⟩, 12), (⟨"ClassAnswers$Post", "move", "(II)V"⟩, 7), (⟨"ClassAnswers", "isShown", "()Z"⟩, 12), (⟨"ClassAnswers", "countAnswered", "()I"⟩, 12), (⟨"ClassAnswers", "areResultsShown", "(I)Z"⟩, 12), (⟨"ClassAnswers$Numbers", "putInOrder", "(I)V"⟩, 4), (⟨"ClassAnswers$Numbers", "lesserMiddle", "()I"⟩, 4), (⟨"ClassAnswers$Numbers", "off", "(LClassAnswers$Box;)I"⟩, 4), (⟨"ClassAnswers$Joiner", "countPairs", "([LClassAnswers$Box;II)V"⟩, 4), (⟨"ClassAnswers$Joiner", "addPairs", "(II)V"⟩, 4), (⟨"ClassAnswers$Joiner", "layOut", "(II)V"⟩, 4)]
theorem lw_r1 : ∀ q ∈ lw_privs_1, lw_okq q := List.forall_mem_cons.mpr ⟨lw_p0, List.forall_mem_cons.mpr ⟨lw_p1, List.forall_mem_cons.mpr ⟨lw_p2, List.forall_mem_cons.mpr ⟨lw_p3, List.forall_mem_cons.mpr ⟨lw_p4, List.forall_mem_cons.mpr ⟨lw_p5, List.forall_mem_cons.mpr ⟨lw_p6, List.forall_mem_cons.mpr ⟨lw_p7, List.forall_mem_cons.mpr ⟨lw_p8, List.forall_mem_cons.mpr ⟨lw_p9, List.forall_mem_cons.mpr ⟨lw_p10, List.forall_mem_cons.mpr ⟨lw_p11, List.forall_mem_cons.mpr ⟨lw_p12, List.forall_mem_cons.mpr ⟨lw_p13, List.forall_mem_cons.mpr ⟨lw_p14, List.forall_mem_cons.mpr ⟨lw_p15, fun _ h => absurd h List.not_mem_nil⟩⟩⟩⟩⟩⟩⟩⟩⟩⟩⟩⟩⟩⟩⟩⟩
theorem lw_p16 : lw_okq (⟨"ClassAnswers$Joiner", "turnedPairs", "(I)I"⟩, 4) := ⟨⟨by decide +kernel, by decide +kernel⟩, List.mem_of_getElem? (i := 129) (by decide +kernel), List.mem_of_getElem? (i := 476) (by decide +kernel), List.mem_of_getElem? (i := 477) (by decide +kernel)⟩
theorem lw_p17 : lw_okq (⟨"ClassAnswers$Joiner", "asAnswer", "(I)I"⟩, 4) := ⟨⟨by decide +kernel, by decide +kernel⟩, List.mem_of_getElem? (i := 129) (by decide +kernel), List.mem_of_getElem? (i := 480) (by decide +kernel), List.mem_of_getElem? (i := 481) (by decide +kernel)⟩
theorem lw_p18 : lw_okq (⟨"ClassAnswers", "canBeTeams", "(I)Z"⟩, 12) := ⟨⟨by decide +kernel, by decide +kernel⟩, List.mem_of_getElem? (i := 15) (by decide +kernel), List.mem_of_getElem? (i := 513) (by decide +kernel), List.mem_of_getElem? (i := 514) (by decide +kernel)⟩
theorem lw_p19 : lw_okq (⟨"ClassAnswers", "evenestTeam", "(I)I"⟩, 12) := ⟨⟨by decide +kernel, by decide +kernel⟩, List.mem_of_getElem? (i := 15) (by decide +kernel), List.mem_of_getElem? (i := 517) (by decide +kernel), List.mem_of_getElem? (i := 518) (by decide +kernel)⟩
theorem lw_p20 : lw_okq (⟨"ClassAnswers", "marksApart", "(II)I"⟩, 12) := ⟨⟨by decide +kernel, by decide +kernel⟩, List.mem_of_getElem? (i := 15) (by decide +kernel), List.mem_of_getElem? (i := 526) (by decide +kernel), List.mem_of_getElem? (i := 527) (by decide +kernel)⟩
theorem lw_p21 : lw_okq (⟨"ClassAnswers$Ledger", "having", "(II)I"⟩, 2) := ⟨⟨by decide +kernel, by decide +kernel⟩, List.mem_of_getElem? (i := 78) (by decide +kernel), List.mem_of_getElem? (i := 538) (by decide +kernel), List.mem_of_getElem? (i := 539) (by decide +kernel)⟩
theorem lw_p22 : lw_okq (⟨"ClassAnswersModel", "isBox", "(I)Z"⟩, 32) := ⟨⟨by decide +kernel, by decide +kernel⟩, List.mem_of_getElem? (i := 570) (by decide +kernel), List.mem_of_getElem? (i := 682) (by decide +kernel), List.mem_of_getElem? (i := 683) (by decide +kernel)⟩
theorem lw_p23 : lw_okq (⟨"ClassAnswersModel", "isAnswer", "(I)Z"⟩, 32) := ⟨⟨by decide +kernel, by decide +kernel⟩, List.mem_of_getElem? (i := 570) (by decide +kernel), List.mem_of_getElem? (i := 706) (by decide +kernel), List.mem_of_getElem? (i := 707) (by decide +kernel)⟩
theorem lw_p24 : lw_okq (⟨"ClassAnswersModel", "passes", "()V"⟩, 32) := ⟨⟨by decide +kernel, by decide +kernel⟩, List.mem_of_getElem? (i := 570) (by decide +kernel), List.mem_of_getElem? (i := 714) (by decide +kernel), List.mem_of_getElem? (i := 715) (by decide +kernel)⟩
theorem lw_p25 : lw_okq (⟨"ClassAnswersModel", "tryBy", "(I)V"⟩, 32) := ⟨⟨by decide +kernel, by decide +kernel⟩, List.mem_of_getElem? (i := 570) (by decide +kernel), List.mem_of_getElem? (i := 718) (by decide +kernel), List.mem_of_getElem? (i := 719) (by decide +kernel)⟩
theorem lw_p26 : lw_okq (⟨"ClassAnswersModel", "comes", "(I)V"⟩, 32) := ⟨⟨by decide +kernel, by decide +kernel⟩, List.mem_of_getElem? (i := 570) (by decide +kernel), List.mem_of_getElem? (i := 722) (by decide +kernel), List.mem_of_getElem? (i := 723) (by decide +kernel)⟩
theorem lw_p27 : lw_okq (⟨"ClassAnswersModel", "answerOf", "(I)I"⟩, 32) := ⟨⟨by decide +kernel, by decide +kernel⟩, List.mem_of_getElem? (i := 570) (by decide +kernel), List.mem_of_getElem? (i := 734) (by decide +kernel), List.mem_of_getElem? (i := 735) (by decide +kernel)⟩
theorem lw_p28 : lw_okq (⟨"ClassAnswersModel", "isShown", "()Z"⟩, 32) := ⟨⟨by decide +kernel, by decide +kernel⟩, List.mem_of_getElem? (i := 570) (by decide +kernel), List.mem_of_getElem? (i := 742) (by decide +kernel), List.mem_of_getElem? (i := 743) (by decide +kernel)⟩
theorem lw_p29 : lw_okq (⟨"ClassAnswersModel", "many", "()I"⟩, 32) := ⟨⟨by decide +kernel, by decide +kernel⟩, List.mem_of_getElem? (i := 570) (by decide +kernel), List.mem_of_getElem? (i := 746) (by decide +kernel), List.mem_of_getElem? (i := 747) (by decide +kernel)⟩
theorem lw_p30 : lw_okq (⟨"ClassAnswersModel", "isShownOf", "(I)Z"⟩, 32) := ⟨⟨by decide +kernel, by decide +kernel⟩, List.mem_of_getElem? (i := 570) (by decide +kernel), List.mem_of_getElem? (i := 754) (by decide +kernel), List.mem_of_getElem? (i := 755) (by decide +kernel)⟩
theorem lw_p31 : lw_okq (⟨"ClassAnswersModel", "middle", "(I)I"⟩, 32) := ⟨⟨by decide +kernel, by decide +kernel⟩, List.mem_of_getElem? (i := 570) (by decide +kernel), List.mem_of_getElem? (i := 762) (by decide +kernel), List.mem_of_getElem? (i := 763) (by decide +kernel)⟩
def lw_privs_2 : List (MethodName × Nat) := [(⟨"ClassAnswers$Joiner", "turnedPairs", "(I)I"⟩, 4), (⟨"ClassAnswers$Joiner", "asAnswer", "(I)I"⟩, 4), (⟨"ClassAnswers", "canBeTeams", "(I)Z"⟩, 12), (⟨"ClassAnswers", "evenestTeam", "(I)I"⟩, 12), (⟨"ClassAnswers", "marksApart", "(II)I"⟩, 12), (⟨"ClassAnswers$Ledger", "having", "(II)I"⟩, 2), (⟨"ClassAnswersModel", "isBox", "(I)Z"⟩, 32), (⟨"ClassAnswersModel", "isAnswer", "(I)Z"⟩, 32), (⟨"ClassAnswersModel", "passes", "()V"⟩, 32), (⟨"ClassAnswersModel", "tryBy", "(I)V"⟩, 32), (⟨"ClassAnswersModel", "comes", "(I)V"⟩, 32), (⟨"ClassAnswersModel", "answerOf", "(I)I"⟩, 32), (⟨"ClassAnswersModel", "isShown", "()Z"⟩, 32), (⟨"ClassAnswersModel", "many", "()I"⟩, 32), (⟨"ClassAnswersModel", "isShownOf", "(I)Z"⟩, 32), (⟨"ClassAnswersModel", "middle", "(I)I"⟩, 32)]
theorem lw_r2 : ∀ q ∈ lw_privs_2, lw_okq q := List.forall_mem_cons.mpr ⟨lw_p16, List.forall_mem_cons.mpr ⟨lw_p17, List.forall_mem_cons.mpr ⟨lw_p18, List.forall_mem_cons.mpr ⟨lw_p19, List.forall_mem_cons.mpr ⟨lw_p20, List.forall_mem_cons.mpr ⟨lw_p21, List.forall_mem_cons.mpr ⟨lw_p22, List.forall_mem_cons.mpr ⟨lw_p23, List.forall_mem_cons.mpr ⟨lw_p24, List.forall_mem_cons.mpr ⟨lw_p25, List.forall_mem_cons.mpr ⟨lw_p26, List.forall_mem_cons.mpr ⟨lw_p27, List.forall_mem_cons.mpr ⟨lw_p28, List.forall_mem_cons.mpr ⟨lw_p29, List.forall_mem_cons.mpr ⟨lw_p30, List.forall_mem_cons.mpr ⟨lw_p31, fun _ h => absurd h List.not_mem_nil⟩⟩⟩⟩⟩⟩⟩⟩⟩⟩⟩⟩⟩⟩⟩⟩
theorem lw_p32 : lw_okq (⟨"ClassAnswersModel", "turned", "(I)I"⟩, 32) := ⟨⟨by decide +kernel, by decide +kernel⟩, List.mem_of_getElem? (i := 570) (by decide +kernel), List.mem_of_getElem? (i := 773) (by decide +kernel), List.mem_of_getElem? (i := 774) (by decide +kernel)⟩
theorem lw_p33 : lw_okq (⟨"ClassAnswersModel", "place", "(II)I"⟩, 32) := ⟨⟨by decide +kernel, by decide +kernel⟩, List.mem_of_getElem? (i := 570) (by decide +kernel), List.mem_of_getElem? (i := 777) (by decide +kernel), List.mem_of_getElem? (i := 778) (by decide +kernel)⟩
theorem lw_p34 : lw_okq (⟨"ClassAnswersModel", "marksOf", "(I)I"⟩, 32) := ⟨⟨by decide +kernel, by decide +kernel⟩, List.mem_of_getElem? (i := 570) (by decide +kernel), List.mem_of_getElem? (i := 796) (by decide +kernel), List.mem_of_getElem? (i := 797) (by decide +kernel)⟩
theorem lw_p35 : lw_okq (⟨"ClassAnswersModel", "marksIn", "(I)I"⟩, 32) := ⟨⟨by decide +kernel, by decide +kernel⟩, List.mem_of_getElem? (i := 570) (by decide +kernel), List.mem_of_getElem? (i := 807) (by decide +kernel), List.mem_of_getElem? (i := 808) (by decide +kernel)⟩
def lw_privs_3 : List (MethodName × Nat) := [(⟨"ClassAnswersModel", "turned", "(I)I"⟩, 32), (⟨"ClassAnswersModel", "place", "(II)I"⟩, 32), (⟨"ClassAnswersModel", "marksOf", "(I)I"⟩, 32), (⟨"ClassAnswersModel", "marksIn", "(I)I"⟩, 32)]
theorem lw_r3 : ∀ q ∈ lw_privs_3, lw_okq q := List.forall_mem_cons.mpr ⟨lw_p32, List.forall_mem_cons.mpr ⟨lw_p33, List.forall_mem_cons.mpr ⟨lw_p34, List.forall_mem_cons.mpr ⟨lw_p35, fun _ h => absurd h List.not_mem_nil⟩⟩⟩⟩
def lw_privs : List (MethodName × Nat) := lw_privs_1 ++ (lw_privs_2 ++ (lw_privs_3))
def lw_tbl : List Cond := k2_sels lw_privs ++ tables_1
theorem lw_privs_ok : ∀ q ∈ lw_privs, lw_okq q := by
  show ∀ q ∈ lw_privs_1 ++ (lw_privs_2 ++ (lw_privs_3)), lw_okq q
  exact List.forall_mem_append.mpr ⟨lw_r1, List.forall_mem_append.mpr ⟨lw_r2, lw_r3⟩⟩

/-! ===== BEGIN words of one list among another's, by their places ===== -/
theorem goodIn_r {big : List Cond} (ws : List Cond) (ps : List Nat) (hp : ws = ps.filterMap (fun i => big[i]?)) (h : ws.all goodWord = true) : GoodIn big ws := by
  intro w hw
  have h1 := List.all_eq_true.mp h w hw
  rw [hp] at hw
  obtain ⟨i, -, hi⟩ := List.mem_filterMap.mp hw
  have hm : w ∈ big := by first | exact List.mem_of_getElem? hi | exact List.getElem?_mem hi
  exact ⟨hm, good_of_word h1⟩
theorem goodIn_app {big a b : List Cond} (ha : GoodIn big a) (hb : GoodIn big b) : GoodIn big (a ++ b) := fun w h => (List.mem_append.mp h).elim (ha w) (hb w)
theorem goodIn_ca {big a b : List Cond} {c : Cond} (ha : GoodIn big (c :: a)) (hb : GoodIn big b) : GoodIn big (c :: (a ++ b)) := fun w h => (List.mem_cons.mp h).elim (fun e => ha w (List.mem_cons.mpr (Or.inl e))) (fun h => (List.mem_append.mp h).elim (fun h => ha w (List.mem_cons.mpr (Or.inr h))) (hb w))
theorem goodIn_sub {big ws : List Cond} (hm : ∀ w ∈ ws, w ∈ big) (h : ws.all goodWord = true) : GoodIn big ws := fun w hw => ⟨hm w hw, good_of_word (List.all_eq_true.mp h w hw)⟩
/-! ===== END ===== -/

def RX0 : String := "ClassAnswers$Box"
def TX0 : u_T := fun k => match k with
  | 0 => ("ClassAnswers$Box", "roads", "[LClassAnswers$Road;", true)
  | 1 => ("ClassAnswers$Box", "kept", "[LClassAnswers$Kept;", true)
  | 2 => ("ClassAnswers$Box", "sends", "I", false)
  | 3 => ("ClassAnswers$Box", "latest", "I", false)
  | 4 => ("ClassAnswers$Box", "sentIn", "I", false)
  | 5 => ("ClassAnswers$Box", "rounds", "I", false)
  | _ => ("ClassAnswers$Box", "rightOnes", "I", false)
def tyX0 : Nat → FieldType := fun k => match k with
  | 0 => .array (.object "ClassAnswers$Road")
  | 1 => .array (.object "ClassAnswers$Kept")
  | 2 => .int
  | 3 => .int
  | 4 => .int
  | 5 => .int
  | _ => .int
abbrev wsX00 : List Cond := u_ws RX0 TX0 7
theorem nmX0 : ∀ a, a < 7 → ∀ b, b < 7 → a ≠ b → (TX0 a).2.1 ≠ (TX0 b).2.1 := by decide +kernel
theorem tyX0_ok : ∀ k, k < 7 → parseFieldDescriptor (TX0 k).2.2.1 = some (tyX0 k) := by decide +kernel
abbrev cX0_init : ByteArray := prog_2_method_1_code
def yX0_init : MethodName := ⟨RX0, "<init>", "()V"⟩
abbrev cX0_forget : ByteArray := prog_2_method_2_code
def yX0_forget : MethodName := ⟨RX0, "forget", "()V"⟩
abbrev cX0_write : ByteArray := prog_2_method_3_code
def yX0_write : MethodName := ⟨RX0, "write", "(II)I"⟩
abbrev cX0_hasTriesLeft : ByteArray := prog_2_method_4_code
def yX0_hasTriesLeft : MethodName := ⟨RX0, "hasTriesLeft", "()Z"⟩
abbrev cX0_isAcknowledged : ByteArray := prog_2_method_5_code
def yX0_isAcknowledged : MethodName := ⟨RX0, "isAcknowledged", "()Z"⟩
abbrev cX0_countedAnswer : ByteArray := prog_2_method_6_code
def yX0_countedAnswer : MethodName := ⟨RX0, "countedAnswer", "()I"⟩
def RX1 : String := "ClassAnswers$Joiner"
def TX1 : u_T := fun k => match k with
  | 0 => ("ClassAnswers$Joiner", "ahead", "[[I", true)
  | 1 => ("ClassAnswers$Joiner", "row", "[I", true)
  | 2 => ("ClassAnswers$Joiner", "joined", "I", false)
  | _ => ("ClassAnswers$Joiner", "turned", "I", false)
def tyX1 : Nat → FieldType := fun k => match k with
  | 0 => .array (.array .int)
  | 1 => .array .int
  | 2 => .int
  | _ => .int
abbrev wsX10 : List Cond := u_ws RX1 TX1 4
theorem nmX1 : ∀ a, a < 4 → ∀ b, b < 4 → a ≠ b → (TX1 a).2.1 ≠ (TX1 b).2.1 := by decide +kernel
theorem tyX1_ok : ∀ k, k < 4 → parseFieldDescriptor (TX1 k).2.2.1 = some (tyX1 k) := by decide +kernel
abbrev cX1_init : ByteArray := prog_3_method_1_code
def yX1_init : MethodName := ⟨RX1, "<init>", "()V"⟩
abbrev cX1_join : ByteArray := prog_3_method_2_code
def yX1_join : MethodName := ⟨RX1, "join", "([LClassAnswers$Box;II)V"⟩
abbrev cX1_countPairs : ByteArray := prog_3_method_3_code
def yX1_countPairs : MethodName := ⟨RX1, "countPairs", "([LClassAnswers$Box;II)V"⟩
abbrev cX1_addPairs : ByteArray := prog_3_method_4_code
def yX1_addPairs : MethodName := ⟨RX1, "addPairs", "(II)V"⟩
abbrev cX1_layOut : ByteArray := prog_3_method_5_code
def yX1_layOut : MethodName := ⟨RX1, "layOut", "(II)V"⟩
abbrev cX1_turnedPairs : ByteArray := prog_3_method_6_code
def yX1_turnedPairs : MethodName := ⟨RX1, "turnedPairs", "(I)I"⟩
abbrev cX1_asAnswer : ByteArray := prog_3_method_7_code
def yX1_asAnswer : MethodName := ⟨RX1, "asAnswer", "(I)I"⟩
def RX2 : String := "ClassAnswers$Kept"
def TX2 : u_T := fun k => match k with
  | 0 => ("ClassAnswers$Kept", "inTimeAnswer", "I", false)
  | 1 => ("ClassAnswers$Kept", "inTimeCount", "I", false)
  | _ => ("ClassAnswers$Kept", "lateCount", "I", false)
def tyX2 : Nat → FieldType := fun k => match k with
  | 0 => .int
  | 1 => .int
  | _ => .int
abbrev wsX20 : List Cond := u_ws RX2 TX2 3
theorem nmX2 : ∀ a, a < 3 → ∀ b, b < 3 → a ≠ b → (TX2 a).2.1 ≠ (TX2 b).2.1 := by decide +kernel
theorem tyX2_ok : ∀ k, k < 3 → parseFieldDescriptor (TX2 k).2.2.1 = some (tyX2 k) := by decide +kernel
abbrev cX2_init : ByteArray := prog_4_method_1_code
def yX2_init : MethodName := ⟨RX2, "<init>", "()V"⟩
abbrev cX2_forget : ByteArray := prog_4_method_2_code
def yX2_forget : MethodName := ⟨RX2, "forget", "()V"⟩
abbrev cX2_take : ByteArray := prog_4_method_3_code
def yX2_take : MethodName := ⟨RX2, "take", "(IIZ)V"⟩
abbrev cX2_greatestCount : ByteArray := prog_4_method_4_code
def yX2_greatestCount : MethodName := ⟨RX2, "greatestCount", "()I"⟩
def RX3 : String := "ClassAnswers$Ledger"
def TX3 : u_T := fun k => match k with
  | 0 => ("ClassAnswers$Ledger", "pages", "[[I", true)
  | _ => ("ClassAnswers$Ledger", "size", "I", false)
def tyX3 : Nat → FieldType := fun k => match k with
  | 0 => .array (.array .int)
  | _ => .int
abbrev wsX30 : List Cond := u_ws RX3 TX3 2
theorem nmX3 : ∀ a, a < 2 → ∀ b, b < 2 → a ≠ b → (TX3 a).2.1 ≠ (TX3 b).2.1 := by decide +kernel
theorem tyX3_ok : ∀ k, k < 2 → parseFieldDescriptor (TX3 k).2.2.1 = some (tyX3 k) := by decide +kernel
abbrev cX3_init : ByteArray := prog_5_method_1_code
def yX3_init : MethodName := ⟨RX3, "<init>", "()V"⟩
abbrev cX3_isFull : ByteArray := prog_5_method_2_code
def yX3_isFull : MethodName := ⟨RX3, "isFull", "()Z"⟩
abbrev cX3_enter : ByteArray := prog_5_method_3_code
def yX3_enter : MethodName := ⟨RX3, "enter", "([LClassAnswers$Box;II)I"⟩
abbrev cX3_judge : ByteArray := prog_5_method_4_code
def yX3_judge : MethodName := ⟨RX3, "judge", "(II)I"⟩
abbrev cX3_bestPage : ByteArray := prog_5_method_5_code
def yX3_bestPage : MethodName := ⟨RX3, "bestPage", "()I"⟩
abbrev cX3_having : ByteArray := prog_5_method_6_code
def yX3_having : MethodName := ⟨RX3, "having", "(II)I"⟩
def RX4 : String := "ClassAnswers$Lots"
def TX4 : u_T := fun k => match k with
  | 0 => ("ClassAnswers$Lots", "state", "J", false)
  | _ => ("ClassAnswers$Lots", "drawn", "I", false)
def tyX4 : Nat → FieldType := fun k => match k with
  | 0 => .long
  | _ => .int
abbrev wsX40 : List Cond := u_ws RX4 TX4 2
theorem nmX4 : ∀ a, a < 2 → ∀ b, b < 2 → a ≠ b → (TX4 a).2.1 ≠ (TX4 b).2.1 := by decide +kernel
theorem tyX4_ok : ∀ k, k < 2 → parseFieldDescriptor (TX4 k).2.2.1 = some (tyX4 k) := by decide +kernel
abbrev cX4_init : ByteArray := prog_6_method_1_code
def yX4_init : MethodName := ⟨RX4, "<init>", "()V"⟩
abbrev cX4_begin : ByteArray := prog_6_method_2_code
def yX4_begin : MethodName := ⟨RX4, "begin", "(I)V"⟩
abbrev cX4_next : ByteArray := prog_6_method_3_code
def yX4_next : MethodName := ⟨RX4, "next", "(I)I"⟩
def RX5 : String := "ClassAnswers$Numbers"
def TX5 : u_T := fun k => match k with
  | 0 => ("ClassAnswers$Numbers", "row", "[I", true)
  | 1 => ("ClassAnswers$Numbers", "filled", "I", false)
  | 2 => ("ClassAnswers$Numbers", "middle", "I", false)
  | _ => ("ClassAnswers$Numbers", "oddBoxes", "I", false)
def tyX5 : Nat → FieldType := fun k => match k with
  | 0 => .array .int
  | 1 => .int
  | 2 => .int
  | _ => .int
abbrev wsX50 : List Cond := u_ws RX5 TX5 4
theorem nmX5 : ∀ a, a < 4 → ∀ b, b < 4 → a ≠ b → (TX5 a).2.1 ≠ (TX5 b).2.1 := by decide +kernel
theorem tyX5_ok : ∀ k, k < 4 → parseFieldDescriptor (TX5 k).2.2.1 = some (tyX5 k) := by decide +kernel
abbrev cX5_init : ByteArray := prog_7_method_1_code
def yX5_init : MethodName := ⟨RX5, "<init>", "()V"⟩
abbrev cX5_look : ByteArray := prog_7_method_2_code
def yX5_look : MethodName := ⟨RX5, "look", "([LClassAnswers$Box;I)V"⟩
abbrev cX5_off : ByteArray := prog_7_method_3_code
def yX5_off : MethodName := ⟨RX5, "off", "(LClassAnswers$Box;)I"⟩
abbrev cX5_lesserMiddle : ByteArray := prog_7_method_4_code
def yX5_lesserMiddle : MethodName := ⟨RX5, "lesserMiddle", "()I"⟩
abbrev cX5_putInOrder : ByteArray := prog_7_method_5_code
def yX5_putInOrder : MethodName := ⟨RX5, "putInOrder", "(I)V"⟩
def RX6 : String := "ClassAnswers$Post"
def TX6 : u_T := fun k => match k with
  | 0 => ("ClassAnswers$Post", "dueIn", "[I", true)
  | 1 => ("ClassAnswers$Post", "fromBox", "[I", true)
  | 2 => ("ClassAnswers$Post", "toBase", "[I", true)
  | 3 => ("ClassAnswers$Post", "answerIn", "[I", true)
  | 4 => ("ClassAnswers$Post", "countIn", "[I", true)
  | 5 => ("ClassAnswers$Post", "sentIn", "[I", true)
  | _ => ("ClassAnswers$Post", "underWay", "I", false)
def tyX6 : Nat → FieldType := fun k => match k with
  | 0 => .array .int
  | 1 => .array .int
  | 2 => .array .int
  | 3 => .array .int
  | 4 => .array .int
  | 5 => .array .int
  | _ => .int
abbrev wsX60 : List Cond := u_ws RX6 TX6 7
theorem nmX6 : ∀ a, a < 7 → ∀ b, b < 7 → a ≠ b → (TX6 a).2.1 ≠ (TX6 b).2.1 := by decide +kernel
theorem tyX6_ok : ∀ k, k < 7 → parseFieldDescriptor (TX6 k).2.2.1 = some (tyX6 k) := by decide +kernel
abbrev cX6_init : ByteArray := prog_8_method_1_code
def yX6_init : MethodName := ⟨RX6, "<init>", "()V"⟩
abbrev cX6_put : ByteArray := prog_8_method_2_code
def yX6_put : MethodName := ⟨RX6, "put", "(IIILClassAnswers$Box;)V"⟩
abbrev cX6_bringWhatIsDue : ByteArray := prog_8_method_3_code
def yX6_bringWhatIsDue : MethodName := ⟨RX6, "bringWhatIsDue", "(II[LClassAnswers$Box;)V"⟩
abbrev cX6_move : ByteArray := prog_8_method_4_code
def yX6_move : MethodName := ⟨RX6, "move", "(II)V"⟩
def RX7 : String := "ClassAnswers$Question"
def TX7 : u_T := fun k => match k with
  | 0 => ("ClassAnswers$Question", "asked", "Z", false)
  | 1 => ("ClassAnswers$Question", "kind", "I", false)
  | 2 => ("ClassAnswers$Question", "things", "I", false)
  | _ => ("ClassAnswers$Question", "bell", "I", false)
def tyX7 : Nat → FieldType := fun k => match k with
  | 0 => .boolean
  | 1 => .int
  | 2 => .int
  | _ => .int
abbrev wsX70 : List Cond := u_ws RX7 TX7 4
theorem nmX7 : ∀ a, a < 4 → ∀ b, b < 4 → a ≠ b → (TX7 a).2.1 ≠ (TX7 b).2.1 := by decide +kernel
theorem tyX7_ok : ∀ k, k < 4 → parseFieldDescriptor (TX7 k).2.2.1 = some (tyX7 k) := by decide +kernel
abbrev cX7_init : ByteArray := prog_9_method_1_code
def yX7_init : MethodName := ⟨RX7, "<init>", "()V"⟩
abbrev cX7_isKind : ByteArray := prog_9_method_2_code
def yX7_isKind : MethodName := ⟨RX7, "isKind", "(II)Z"⟩
abbrev cX7_begin : ByteArray := prog_9_method_3_code
def yX7_begin : MethodName := ⟨RX7, "begin", "(III)V"⟩
abbrev cX7_takes : ByteArray := prog_9_method_4_code
def yX7_takes : MethodName := ⟨RX7, "takes", "(I)Z"⟩
abbrev cX7_isOrder : ByteArray := prog_9_method_5_code
def yX7_isOrder : MethodName := ⟨RX7, "isOrder", "(I)Z"⟩
def RX8 : String := "ClassAnswers$Road"
def TX8 : u_T := fun k => match k with
  | 0 => ("ClassAnswers$Road", "bits", "I", false)
  | 1 => ("ClassAnswers$Road", "place", "I", false)
  | _ => ("ClassAnswers$Road", "delay", "I", false)
def tyX8 : Nat → FieldType := fun k => match k with
  | 0 => .int
  | 1 => .int
  | _ => .int
abbrev wsX80 : List Cond := u_ws RX8 TX8 3
theorem nmX8 : ∀ a, a < 3 → ∀ b, b < 3 → a ≠ b → (TX8 a).2.1 ≠ (TX8 b).2.1 := by decide +kernel
theorem tyX8_ok : ∀ k, k < 3 → parseFieldDescriptor (TX8 k).2.2.1 = some (tyX8 k) := by decide +kernel
abbrev cX8_init : ByteArray := prog_10_method_1_code
def yX8_init : MethodName := ⟨RX8, "<init>", "()V"⟩
abbrev cX8_lay : ByteArray := prog_10_method_2_code
def yX8_lay : MethodName := ⟨RX8, "lay", "(II)V"⟩
abbrev cX8_losesNext : ByteArray := prog_10_method_3_code
def yX8_losesNext : MethodName := ⟨RX8, "losesNext", "()Z"⟩
def RX9 : String := "ClassAnswers"
def TX9 : u_T := fun k => match k with
  | 0 => ("ClassAnswers", "boxes", "[LClassAnswers$Box;", true)
  | 1 => ("ClassAnswers", "boxCount", "I", false)
  | 2 => ("ClassAnswers", "tick", "I", false)
  | 3 => ("ClassAnswers", "hidden", "I", false)
  | 4 => ("ClassAnswers", "least", "I", false)
  | 5 => ("ClassAnswers", "triesMade", "I", false)
  | 6 => ("ClassAnswers", "question", "LClassAnswers$Question;", true)
  | 7 => ("ClassAnswers", "post", "LClassAnswers$Post;", true)
  | 8 => ("ClassAnswers", "ledger", "LClassAnswers$Ledger;", true)
  | 9 => ("ClassAnswers", "lots", "LClassAnswers$Lots;", true)
  | 10 => ("ClassAnswers", "numbers", "LClassAnswers$Numbers;", true)
  | _ => ("ClassAnswers", "joiner", "LClassAnswers$Joiner;", true)
def tyX9 : Nat → FieldType := fun k => match k with
  | 0 => .array (.object "ClassAnswers$Box")
  | 1 => .int
  | 2 => .int
  | 3 => .int
  | 4 => .int
  | 5 => .int
  | 6 => .object "ClassAnswers$Question"
  | 7 => .object "ClassAnswers$Post"
  | 8 => .object "ClassAnswers$Ledger"
  | 9 => .object "ClassAnswers$Lots"
  | 10 => .object "ClassAnswers$Numbers"
  | _ => .object "ClassAnswers$Joiner"
abbrev wsX90 : List Cond := u_ws RX9 TX9 12
theorem nmX9 : ∀ a, a < 12 → ∀ b, b < 12 → a ≠ b → (TX9 a).2.1 ≠ (TX9 b).2.1 := by decide +kernel
theorem tyX9_ok : ∀ k, k < 12 → parseFieldDescriptor (TX9 k).2.2.1 = some (tyX9 k) := by decide +kernel
abbrev cX9_init : ByteArray := prog_1_method_1_code
def yX9_init : MethodName := ⟨RX9, "<init>", "()V"⟩
abbrev cX9_box : ByteArray := prog_1_method_2_code
def yX9_box : MethodName := ⟨RX9, "box", "()I"⟩
abbrev cX9_road : ByteArray := prog_1_method_3_code
def yX9_road : MethodName := ⟨RX9, "road", "(IIII)I"⟩
abbrev cX9_rule : ByteArray := prog_1_method_4_code
def yX9_rule : MethodName := ⟨RX9, "rule", "(II)I"⟩
abbrev cX9_ask : ByteArray := prog_1_method_5_code
def yX9_ask : MethodName := ⟨RX9, "ask", "(III)I"⟩
abbrev cX9_send : ByteArray := prog_1_method_6_code
def yX9_send : MethodName := ⟨RX9, "send", "(II)I"⟩
abbrev cX9_ticks : ByteArray := prog_1_method_7_code
def yX9_ticks : MethodName := ⟨RX9, "ticks", "(I)I"⟩
abbrev cX9_isQuiet : ByteArray := prog_1_method_8_code
def yX9_isQuiet : MethodName := ⟨RX9, "isQuiet", "()Z"⟩
abbrev cX9_passTick : ByteArray := prog_1_method_9_code
def yX9_passTick : MethodName := ⟨RX9, "passTick", "()V"⟩
abbrev cX9_isTrying : ByteArray := prog_1_method_10_code
def yX9_isTrying : MethodName := ⟨RX9, "isTrying", "(LClassAnswers$Box;)Z"⟩
abbrev cX9_tryBothRoads : ByteArray := prog_1_method_11_code
def yX9_tryBothRoads : MethodName := ⟨RX9, "tryBothRoads", "(I)V"⟩
abbrev cX9_base : ByteArray := prog_1_method_12_code
def yX9_base : MethodName := ⟨RX9, "base", "(III)I"⟩
abbrev cX9_about : ByteArray := prog_1_method_13_code
def yX9_about : MethodName := ⟨RX9, "about", "(II)I"⟩
abbrev cX9_answers : ByteArray := prog_1_method_14_code
def yX9_answers : MethodName := ⟨RX9, "answers", "()I"⟩
abbrev cX9_share : ByteArray := prog_1_method_15_code
def yX9_share : MethodName := ⟨RX9, "share", "(I)I"⟩
abbrev cX9_number : ByteArray := prog_1_method_16_code
def yX9_number : MethodName := ⟨RX9, "number", "(I)I"⟩
abbrev cX9_order : ByteArray := prog_1_method_17_code
def yX9_order : MethodName := ⟨RX9, "order", "(I)I"⟩
abbrev cX9_isShown : ByteArray := prog_1_method_18_code
def yX9_isShown : MethodName := ⟨RX9, "isShown", "()Z"⟩
abbrev cX9_areResultsShown : ByteArray := prog_1_method_19_code
def yX9_areResultsShown : MethodName := ⟨RX9, "areResultsShown", "(I)Z"⟩
abbrev cX9_countAnswered : ByteArray := prog_1_method_20_code
def yX9_countAnswered : MethodName := ⟨RX9, "countAnswered", "()I"⟩
abbrev cX9_close : ByteArray := prog_1_method_21_code
def yX9_close : MethodName := ⟨RX9, "close", "(I)I"⟩
abbrev cX9_book : ByteArray := prog_1_method_22_code
def yX9_book : MethodName := ⟨RX9, "book", "(II)I"⟩
abbrev cX9_marks : ByteArray := prog_1_method_23_code
def yX9_marks : MethodName := ⟨RX9, "marks", "(I)I"⟩
abbrev cX9_teams : ByteArray := prog_1_method_24_code
def yX9_teams : MethodName := ⟨RX9, "teams", "(II)I"⟩
abbrev cX9_canBeTeams : ByteArray := prog_1_method_25_code
def yX9_canBeTeams : MethodName := ⟨RX9, "canBeTeams", "(I)Z"⟩
abbrev cX9_evenestTeam : ByteArray := prog_1_method_26_code
def yX9_evenestTeam : MethodName := ⟨RX9, "evenestTeam", "(I)I"⟩
abbrev cX9_marksApart : ByteArray := prog_1_method_27_code
def yX9_marksApart : MethodName := ⟨RX9, "marksApart", "(II)I"⟩
abbrev cX9_best : ByteArray := prog_1_method_28_code
def yX9_best : MethodName := ⟨RX9, "best", "()I"⟩
abbrev cX9_seed : ByteArray := prog_1_method_29_code
def yX9_seed : MethodName := ⟨RX9, "seed", "(I)I"⟩
abbrev cX9_draw : ByteArray := prog_1_method_30_code
def yX9_draw : MethodName := ⟨RX9, "draw", "()I"⟩
abbrev cX9_count : ByteArray := prog_1_method_31_code
def yX9_count : MethodName := ⟨RX9, "count", "(I)I"⟩
abbrev cX9_isBox : ByteArray := prog_1_method_32_code
def yX9_isBox : MethodName := ⟨RX9, "isBox", "(I)Z"⟩
abbrev cX9_isBase : ByteArray := prog_1_method_33_code
def yX9_isBase : MethodName := ⟨RX9, "isBase", "(I)Z"⟩
abbrev cX9_isWithin : ByteArray := prog_1_method_34_code
def yX9_isWithin : MethodName := ⟨RX9, "isWithin", "(III)Z"⟩
abbrev cX9_clearBit : ByteArray := prog_1_method_35_code
def yX9_clearBit : MethodName := ⟨RX9, "clearBit", "(III)I"⟩
def RX10 : String := "ClassAnswersModel"
def TX10 : u_T := fun k => match k with
  | 0 => ("ClassAnswersModel", "boxes", "I", false)
  | 1 => ("ClassAnswersModel", "tick", "I", false)
  | 2 => ("ClassAnswersModel", "bits", "[I", true)
  | 3 => ("ClassAnswersModel", "delay", "[I", true)
  | 4 => ("ClassAnswersModel", "at", "[I", true)
  | 5 => ("ClassAnswersModel", "tries", "[I", true)
  | 6 => ("ClassAnswersModel", "hidden", "Z", false)
  | 7 => ("ClassAnswersModel", "least", "I", false)
  | 8 => ("ClassAnswersModel", "asked", "Z", false)
  | 9 => ("ClassAnswersModel", "kind", "I", false)
  | 10 => ("ClassAnswersModel", "things", "I", false)
  | 11 => ("ClassAnswersModel", "bell", "I", false)
  | 12 => ("ClassAnswersModel", "count", "[I", true)
  | 13 => ("ClassAnswersModel", "answer", "[I", true)
  | 14 => ("ClassAnswersModel", "sent", "[I", true)
  | 15 => ("ClassAnswersModel", "isKnown", "[Z", true)
  | 16 => ("ClassAnswersModel", "kept", "[I", true)
  | 17 => ("ClassAnswersModel", "inTime", "[I", true)
  | 18 => ("ClassAnswersModel", "late", "[I", true)
  | 19 => ("ClassAnswersModel", "greatest", "[I", true)
  | 20 => ("ClassAnswersModel", "letters", "I", false)
  | 21 => ("ClassAnswersModel", "due", "[I", true)
  | 22 => ("ClassAnswersModel", "from", "[I", true)
  | 23 => ("ClassAnswersModel", "letterCount", "[I", true)
  | 24 => ("ClassAnswersModel", "letterAnswer", "[I", true)
  | 25 => ("ClassAnswersModel", "letterSent", "[I", true)
  | 26 => ("ClassAnswersModel", "allTries", "I", false)
  | 27 => ("ClassAnswersModel", "questions", "I", false)
  | 28 => ("ClassAnswersModel", "book", "[I", true)
  | 29 => ("ClassAnswersModel", "seed", "J", false)
  | 30 => ("ClassAnswersModel", "drawn", "I", false)
  | _ => ("ClassAnswersModel", "row", "[I", true)
def tyX10 : Nat → FieldType := fun k => match k with
  | 0 => .int
  | 1 => .int
  | 2 => .array .int
  | 3 => .array .int
  | 4 => .array .int
  | 5 => .array .int
  | 6 => .boolean
  | 7 => .int
  | 8 => .boolean
  | 9 => .int
  | 10 => .int
  | 11 => .int
  | 12 => .array .int
  | 13 => .array .int
  | 14 => .array .int
  | 15 => .array .boolean
  | 16 => .array .int
  | 17 => .array .int
  | 18 => .array .int
  | 19 => .array .int
  | 20 => .int
  | 21 => .array .int
  | 22 => .array .int
  | 23 => .array .int
  | 24 => .array .int
  | 25 => .array .int
  | 26 => .int
  | 27 => .int
  | 28 => .array .int
  | 29 => .long
  | 30 => .int
  | _ => .array .int
abbrev wsX100 : List Cond := u_ws RX10 TX10 32
theorem nmX10 : ∀ a, a < 32 → ∀ b, b < 32 → a ≠ b → (TX10 a).2.1 ≠ (TX10 b).2.1 := by decide +kernel
theorem tyX10_ok : ∀ k, k < 32 → parseFieldDescriptor (TX10 k).2.2.1 = some (tyX10 k) := by decide +kernel
abbrev cX10_init : ByteArray := prog_12_method_1_code
def yX10_init : MethodName := ⟨RX10, "<init>", "()V"⟩
abbrev cX10_in : ByteArray := prog_12_method_2_code
def yX10_in : MethodName := ⟨RX10, "in", "(III)Z"⟩
abbrev cX10_isBox : ByteArray := prog_12_method_3_code
def yX10_isBox : MethodName := ⟨RX10, "isBox", "(I)Z"⟩
abbrev cX10_isBase : ByteArray := prog_12_method_4_code
def yX10_isBase : MethodName := ⟨RX10, "isBase", "(I)Z"⟩
abbrev cX10_box : ByteArray := prog_12_method_5_code
def yX10_box : MethodName := ⟨RX10, "box", "()I"⟩
abbrev cX10_road : ByteArray := prog_12_method_6_code
def yX10_road : MethodName := ⟨RX10, "road", "(IIII)I"⟩
abbrev cX10_rule : ByteArray := prog_12_method_7_code
def yX10_rule : MethodName := ⟨RX10, "rule", "(II)I"⟩
abbrev cX10_ask : ByteArray := prog_12_method_8_code
def yX10_ask : MethodName := ⟨RX10, "ask", "(III)I"⟩
abbrev cX10_isAnswer : ByteArray := prog_12_method_9_code
def yX10_isAnswer : MethodName := ⟨RX10, "isAnswer", "(I)Z"⟩
abbrev cX10_send : ByteArray := prog_12_method_10_code
def yX10_send : MethodName := ⟨RX10, "send", "(II)I"⟩
abbrev cX10_tryBy : ByteArray := prog_12_method_11_code
def yX10_tryBy : MethodName := ⟨RX10, "tryBy", "(I)V"⟩
abbrev cX10_comes : ByteArray := prog_12_method_12_code
def yX10_comes : MethodName := ⟨RX10, "comes", "(I)V"⟩
abbrev cX10_passes : ByteArray := prog_12_method_13_code
def yX10_passes : MethodName := ⟨RX10, "passes", "()V"⟩
abbrev cX10_ticks : ByteArray := prog_12_method_14_code
def yX10_ticks : MethodName := ⟨RX10, "ticks", "(I)I"⟩
abbrev cX10_base : ByteArray := prog_12_method_15_code
def yX10_base : MethodName := ⟨RX10, "base", "(III)I"⟩
abbrev cX10_answerOf : ByteArray := prog_12_method_16_code
def yX10_answerOf : MethodName := ⟨RX10, "answerOf", "(I)I"⟩
abbrev cX10_about : ByteArray := prog_12_method_17_code
def yX10_about : MethodName := ⟨RX10, "about", "(II)I"⟩
abbrev cX10_many : ByteArray := prog_12_method_18_code
def yX10_many : MethodName := ⟨RX10, "many", "()I"⟩
abbrev cX10_isShown : ByteArray := prog_12_method_19_code
def yX10_isShown : MethodName := ⟨RX10, "isShown", "()Z"⟩
abbrev cX10_answers : ByteArray := prog_12_method_20_code
def yX10_answers : MethodName := ⟨RX10, "answers", "()I"⟩
abbrev cX10_isShownOf : ByteArray := prog_12_method_21_code
def yX10_isShownOf : MethodName := ⟨RX10, "isShownOf", "(I)Z"⟩
abbrev cX10_share : ByteArray := prog_12_method_22_code
def yX10_share : MethodName := ⟨RX10, "share", "(I)I"⟩
abbrev cX10_middle : ByteArray := prog_12_method_23_code
def yX10_middle : MethodName := ⟨RX10, "middle", "(I)I"⟩
abbrev cX10_size : ByteArray := prog_12_method_24_code
def yX10_size : MethodName := ⟨RX10, "size", "(I)I"⟩
abbrev cX10_number : ByteArray := prog_12_method_25_code
def yX10_number : MethodName := ⟨RX10, "number", "(I)I"⟩
abbrev cX10_place : ByteArray := prog_12_method_26_code
def yX10_place : MethodName := ⟨RX10, "place", "(II)I"⟩
abbrev cX10_turned : ByteArray := prog_12_method_27_code
def yX10_turned : MethodName := ⟨RX10, "turned", "(I)I"⟩
abbrev cX10_isLower : ByteArray := prog_12_method_28_code
def yX10_isLower : MethodName := ⟨RX10, "isLower", "(II)Z"⟩
abbrev cX10_order : ByteArray := prog_12_method_29_code
def yX10_order : MethodName := ⟨RX10, "order", "(I)I"⟩
abbrev cX10_close : ByteArray := prog_12_method_30_code
def yX10_close : MethodName := ⟨RX10, "close", "(I)I"⟩
abbrev cX10_book : ByteArray := prog_12_method_31_code
def yX10_book : MethodName := ⟨RX10, "book", "(II)I"⟩
abbrev cX10_marksOf : ByteArray := prog_12_method_32_code
def yX10_marksOf : MethodName := ⟨RX10, "marksOf", "(I)I"⟩
abbrev cX10_marks : ByteArray := prog_12_method_33_code
def yX10_marks : MethodName := ⟨RX10, "marks", "(I)I"⟩
abbrev cX10_sizeOf : ByteArray := prog_12_method_34_code
def yX10_sizeOf : MethodName := ⟨RX10, "sizeOf", "(I)I"⟩
abbrev cX10_marksIn : ByteArray := prog_12_method_35_code
def yX10_marksIn : MethodName := ⟨RX10, "marksIn", "(I)I"⟩
abbrev cX10_teams : ByteArray := prog_12_method_36_code
def yX10_teams : MethodName := ⟨RX10, "teams", "(II)I"⟩
abbrev cX10_best : ByteArray := prog_12_method_37_code
def yX10_best : MethodName := ⟨RX10, "best", "()I"⟩
abbrev cX10_seed : ByteArray := prog_12_method_38_code
def yX10_seed : MethodName := ⟨RX10, "seed", "(I)I"⟩
abbrev cX10_draw : ByteArray := prog_12_method_39_code
def yX10_draw : MethodName := ⟨RX10, "draw", "()I"⟩
abbrev cX10_count : ByteArray := prog_12_method_40_code
def yX10_count : MethodName := ⟨RX10, "count", "(I)I"⟩
def RJ6 : String := "java/lang/Integer"
def TJ6 : u_T := fun k => match k with
  | _ => ("", "", "", false)
def tyJ6 : Nat → FieldType := fun k => match k with
  | _ => .int
abbrev wsJ60 : List Cond := u_ws RJ6 TJ6 0
theorem nmJ6 : ∀ a, a < 0 → ∀ b, b < 0 → a ≠ b → (TJ6 a).2.1 ≠ (TJ6 b).2.1 := by decide +kernel
theorem tyJ6_ok : ∀ k, k < 0 → parseFieldDescriptor (TJ6 k).2.2.1 = some (tyJ6 k) := by decide +kernel
abbrev cJ6_lowestOneBit_0f7a4 : ByteArray := prog_13_method_46_code
def yJ6_lowestOneBit_0f7a4 : MethodName := ⟨RJ6, "lowestOneBit", "(I)I"⟩
abbrev cJ6_bitCount_0f7a4 : ByteArray := prog_13_method_49_code
def yJ6_bitCount_0f7a4 : MethodName := ⟨RJ6, "bitCount", "(I)I"⟩
def RJ9 : String := "java/lang/Math"
def TJ9 : u_T := fun k => match k with
  | _ => ("", "", "", false)
def tyJ9 : Nat → FieldType := fun k => match k with
  | _ => .int
abbrev wsJ90 : List Cond := u_ws RJ9 TJ9 0
theorem nmJ9 : ∀ a, a < 0 → ∀ b, b < 0 → a ≠ b → (TJ9 a).2.1 ≠ (TJ9 b).2.1 := by decide +kernel
theorem tyJ9_ok : ∀ k, k < 0 → parseFieldDescriptor (TJ9 k).2.2.1 = some (tyJ9 k) := by decide +kernel
abbrev cJ9_abs_0f7a4 : ByteArray := prog_14_method_59_code
def yJ9_abs_0f7a4 : MethodName := ⟨RJ9, "abs", "(I)I"⟩
abbrev cJ9_max_7cf53 : ByteArray := prog_14_method_65_code
def yJ9_max_7cf53 : MethodName := ⟨RJ9, "max", "(II)I"⟩
abbrev cJ9_min_7cf53 : ByteArray := prog_14_method_69_code
def yJ9_min_7cf53 : MethodName := ⟨RJ9, "min", "(II)I"⟩
def RL : String := "ClassAnswersLaw"
abbrev cL_law : ByteArray := code
def yL_law : MethodName := ⟨RL, "law", "([I)Z"⟩
abbrev vwCl : List vw_C := [(RX0, TX0, 7), (RX1, TX1, 4), (RX2, TX2, 3), (RX3, TX3, 2), (RX4, TX4, 2), (RX5, TX5, 4), (RX6, TX6, 7), (RX7, TX7, 4), (RX8, TX8, 3), (RX9, TX9, 12), (RX10, TX10, 32)]
set_option maxRecDepth 20000 in
theorem ca_inX0 : ∀ w ∈ wsX00, w ∈ lw_tbl := fun w h => (goodIn_r wsX00 [247, 249, 251, 253, 255, 257, 259] (by decide +kernel) (by decide +kernel) w h).1
set_option maxRecDepth 20000 in
theorem ca_inX1 : ∀ w ∈ wsX10, w ∈ lw_tbl := fun w h => (goodIn_r wsX10 [177, 179, 181, 183] (by decide +kernel) (by decide +kernel) w h).1
set_option maxRecDepth 20000 in
theorem ca_inX2 : ∀ w ∈ wsX20, w ∈ lw_tbl := fun w h => (goodIn_r wsX20 [224, 226, 228] (by decide +kernel) (by decide +kernel) w h).1
set_option maxRecDepth 20000 in
theorem ca_inX3 : ∀ w ∈ wsX30, w ∈ lw_tbl := fun w h => (goodIn_r wsX30 [125, 127] (by decide +kernel) (by decide +kernel) w h).1
set_option maxRecDepth 20000 in
theorem ca_inX4 : ∀ w ∈ wsX40, w ∈ lw_tbl := fun w h => (goodIn_r wsX40 [138, 140] (by decide +kernel) (by decide +kernel) w h).1
set_option maxRecDepth 20000 in
theorem ca_inX5 : ∀ w ∈ wsX50, w ∈ lw_tbl := fun w h => (goodIn_r wsX50 [155, 157, 159, 161] (by decide +kernel) (by decide +kernel) w h).1
set_option maxRecDepth 20000 in
theorem ca_inX6 : ∀ w ∈ wsX60, w ∈ lw_tbl := fun w h => (goodIn_r wsX60 [97, 99, 101, 103, 105, 107, 109] (by decide +kernel) (by decide +kernel) w h).1
set_option maxRecDepth 20000 in
theorem ca_inX7 : ∀ w ∈ wsX70, w ∈ lw_tbl := fun w h => (goodIn_r wsX70 [74, 76, 78, 80] (by decide +kernel) (by decide +kernel) w h).1
set_option maxRecDepth 20000 in
theorem ca_inX8 : ∀ w ∈ wsX80, w ∈ lw_tbl := fun w h => (goodIn_r wsX80 [204, 206, 208] (by decide +kernel) (by decide +kernel) w h).1
set_option maxRecDepth 20000 in
theorem ca_inX9 : ∀ w ∈ wsX90, w ∈ lw_tbl := fun w h => (goodIn_r wsX90 [274, 276, 278, 280, 282, 284, 286, 288, 290, 292, 294, 296] (by decide +kernel) (by decide +kernel) w h).1
set_option maxRecDepth 20000 in
theorem ca_inX10 : ∀ w ∈ wsX100, w ∈ lw_tbl := fun w h => (goodIn_r wsX100 [643, 645, 647, 649, 651, 653, 655, 657, 659, 661, 663, 665, 667, 669, 671, 673, 675, 677, 679, 681, 683, 685, 687, 689, 691, 693, 695, 697, 699, 701, 703, 705] (by decide +kernel) (by decide +kernel) w h).1
end
section
theorem dX0_init_0 : decode cX0_init 0 = .ok (.aload_n 0, 1) := by decide +kernel
theorem dX0_init_1 : decode cX0_init 1 = .ok (.invokespecial 3, 3) := by decide +kernel
theorem dX0_init_4 : decode cX0_init 4 = .ok (.aload_n 0, 1) := by decide +kernel
theorem dX0_init_5 : decode cX0_init 5 = .ok (.iconst 2, 1) := by decide +kernel
theorem dX0_init_6 : decode cX0_init 6 = .ok (.anewarray 9, 3) := by decide +kernel
theorem dX0_init_9 : decode cX0_init 9 = .ok (.putfield 11, 3) := by decide +kernel
theorem dX0_init_12 : decode cX0_init 12 = .ok (.aload_n 0, 1) := by decide +kernel
theorem dX0_init_13 : decode cX0_init 13 = .ok (.iconst 2, 1) := by decide +kernel
theorem dX0_init_14 : decode cX0_init 14 = .ok (.anewarray 17, 3) := by decide +kernel
theorem dX0_init_17 : decode cX0_init 17 = .ok (.putfield 19, 3) := by decide +kernel
theorem dX0_init_20 : decode cX0_init 20 = .ok (.iconst 0, 1) := by decide +kernel
theorem dX0_init_21 : decode cX0_init 21 = .ok (.istore_n 1, 1) := by decide +kernel
theorem dX0_init_22 : decode cX0_init 22 = .ok (.iload_n 1, 1) := by decide +kernel
theorem dX0_init_23 : decode cX0_init 23 = .ok (.iconst 2, 1) := by decide +kernel
theorem dX0_init_24 : decode cX0_init 24 = .ok (.if_icmp .ge 35, 3) := by decide +kernel
theorem dX0_init_27 : decode cX0_init 27 = .ok (.aload_n 0, 1) := by decide +kernel
theorem dX0_init_28 : decode cX0_init 28 = .ok (.getfield 11, 3) := by decide +kernel
theorem dX0_init_31 : decode cX0_init 31 = .ok (.iload_n 1, 1) := by decide +kernel
theorem dX0_init_32 : decode cX0_init 32 = .ok (.new 9, 3) := by decide +kernel
theorem dX0_init_35 : decode cX0_init 35 = .ok (.dup, 1) := by decide +kernel
theorem dX0_init_36 : decode cX0_init 36 = .ok (.invokespecial 23, 3) := by decide +kernel
theorem dX0_init_39 : decode cX0_init 39 = .ok (.aastore, 1) := by decide +kernel
theorem dX0_init_40 : decode cX0_init 40 = .ok (.aload_n 0, 1) := by decide +kernel
theorem dX0_init_41 : decode cX0_init 41 = .ok (.getfield 19, 3) := by decide +kernel
theorem dX0_init_44 : decode cX0_init 44 = .ok (.iload_n 1, 1) := by decide +kernel
theorem dX0_init_45 : decode cX0_init 45 = .ok (.new 17, 3) := by decide +kernel
theorem dX0_init_48 : decode cX0_init 48 = .ok (.dup, 1) := by decide +kernel
theorem dX0_init_49 : decode cX0_init 49 = .ok (.invokespecial 24, 3) := by decide +kernel
theorem dX0_init_52 : decode cX0_init 52 = .ok (.aastore, 1) := by decide +kernel
theorem dX0_init_53 : decode cX0_init 53 = .ok (.iinc 1 1, 3) := by decide +kernel
theorem dX0_init_56 : decode cX0_init 56 = .ok (.goto (-34), 3) := by decide +kernel
theorem dX0_init_59 : decode cX0_init 59 = .ok (.return_, 1) := by decide +kernel
theorem dX0_forget_0 : decode cX0_forget 0 = .ok (.aload_n 0, 1) := by decide +kernel
theorem dX0_forget_1 : decode cX0_forget 1 = .ok (.iconst 0, 1) := by decide +kernel
theorem dX0_forget_2 : decode cX0_forget 2 = .ok (.putfield 25, 3) := by decide +kernel
theorem dX0_forget_5 : decode cX0_forget 5 = .ok (.aload_n 0, 1) := by decide +kernel
theorem dX0_forget_6 : decode cX0_forget 6 = .ok (.iconst 0, 1) := by decide +kernel
theorem dX0_forget_7 : decode cX0_forget 7 = .ok (.putfield 29, 3) := by decide +kernel
theorem dX0_forget_10 : decode cX0_forget 10 = .ok (.iconst 0, 1) := by decide +kernel
theorem dX0_forget_11 : decode cX0_forget 11 = .ok (.istore_n 1, 1) := by decide +kernel
theorem dX0_forget_12 : decode cX0_forget 12 = .ok (.iload_n 1, 1) := by decide +kernel
theorem dX0_forget_13 : decode cX0_forget 13 = .ok (.iconst 2, 1) := by decide +kernel
theorem dX0_forget_14 : decode cX0_forget 14 = .ok (.if_icmp .ge 18, 3) := by decide +kernel
theorem dX0_forget_17 : decode cX0_forget 17 = .ok (.aload_n 0, 1) := by decide +kernel
theorem dX0_forget_18 : decode cX0_forget 18 = .ok (.getfield 19, 3) := by decide +kernel
theorem dX0_forget_21 : decode cX0_forget 21 = .ok (.iload_n 1, 1) := by decide +kernel
theorem dX0_forget_22 : decode cX0_forget 22 = .ok (.aaload, 1) := by decide +kernel
theorem dX0_forget_23 : decode cX0_forget 23 = .ok (.invokevirtual 32, 3) := by decide +kernel
theorem dX0_forget_26 : decode cX0_forget 26 = .ok (.iinc 1 1, 3) := by decide +kernel
theorem dX0_forget_29 : decode cX0_forget 29 = .ok (.goto (-17), 3) := by decide +kernel
theorem dX0_forget_32 : decode cX0_forget 32 = .ok (.return_, 1) := by decide +kernel
theorem dX0_write_0 : decode cX0_write 0 = .ok (.aload_n 0, 1) := by decide +kernel
theorem dX0_write_1 : decode cX0_write 1 = .ok (.iload_n 1, 1) := by decide +kernel
theorem dX0_write_2 : decode cX0_write 2 = .ok (.putfield 35, 3) := by decide +kernel
theorem dX0_write_5 : decode cX0_write 5 = .ok (.aload_n 0, 1) := by decide +kernel
theorem dX0_write_6 : decode cX0_write 6 = .ok (.iload_n 2, 1) := by decide +kernel
theorem dX0_write_7 : decode cX0_write 7 = .ok (.putfield 38, 3) := by decide +kernel
theorem dX0_write_10 : decode cX0_write 10 = .ok (.aload_n 0, 1) := by decide +kernel
theorem dX0_write_11 : decode cX0_write 11 = .ok (.iconst 0, 1) := by decide +kernel
theorem dX0_write_12 : decode cX0_write 12 = .ok (.putfield 29, 3) := by decide +kernel
theorem dX0_write_15 : decode cX0_write 15 = .ok (.aload_n 0, 1) := by decide +kernel
theorem dX0_write_16 : decode cX0_write 16 = .ok (.dup, 1) := by decide +kernel
theorem dX0_write_17 : decode cX0_write 17 = .ok (.getfield 25, 3) := by decide +kernel
theorem dX0_write_20 : decode cX0_write 20 = .ok (.iconst 1, 1) := by decide +kernel
theorem dX0_write_21 : decode cX0_write 21 = .ok (.iadd, 1) := by decide +kernel
theorem dX0_write_22 : decode cX0_write 22 = .ok (.putfield 25, 3) := by decide +kernel
theorem dX0_write_25 : decode cX0_write 25 = .ok (.aload_n 0, 1) := by decide +kernel
theorem dX0_write_26 : decode cX0_write 26 = .ok (.getfield 25, 3) := by decide +kernel
theorem dX0_write_29 : decode cX0_write 29 = .ok (.ireturn, 1) := by decide +kernel
theorem dX0_hasTriesLeft_0 : decode cX0_hasTriesLeft 0 = .ok (.aload_n 0, 1) := by decide +kernel
theorem dX0_hasTriesLeft_1 : decode cX0_hasTriesLeft 1 = .ok (.getfield 25, 3) := by decide +kernel
theorem dX0_hasTriesLeft_4 : decode cX0_hasTriesLeft 4 = .ok (.ifCond .le 15, 3) := by decide +kernel
theorem dX0_hasTriesLeft_7 : decode cX0_hasTriesLeft 7 = .ok (.aload_n 0, 1) := by decide +kernel
theorem dX0_hasTriesLeft_8 : decode cX0_hasTriesLeft 8 = .ok (.getfield 29, 3) := by decide +kernel
theorem dX0_hasTriesLeft_11 : decode cX0_hasTriesLeft 11 = .ok (.iconst 5, 1) := by decide +kernel
theorem dX0_hasTriesLeft_12 : decode cX0_hasTriesLeft 12 = .ok (.if_icmp .ge 7, 3) := by decide +kernel
theorem dX0_hasTriesLeft_15 : decode cX0_hasTriesLeft 15 = .ok (.iconst 1, 1) := by decide +kernel
theorem dX0_hasTriesLeft_16 : decode cX0_hasTriesLeft 16 = .ok (.goto 4, 3) := by decide +kernel
theorem dX0_hasTriesLeft_19 : decode cX0_hasTriesLeft 19 = .ok (.iconst 0, 1) := by decide +kernel
theorem dX0_hasTriesLeft_20 : decode cX0_hasTriesLeft 20 = .ok (.ireturn, 1) := by decide +kernel
theorem dX0_isAcknowledged_0 : decode cX0_isAcknowledged 0 = .ok (.aload_n 0, 1) := by decide +kernel
theorem dX0_isAcknowledged_1 : decode cX0_isAcknowledged 1 = .ok (.getfield 25, 3) := by decide +kernel
theorem dX0_isAcknowledged_4 : decode cX0_isAcknowledged 4 = .ok (.ifCond .le 35, 3) := by decide +kernel
theorem dX0_isAcknowledged_7 : decode cX0_isAcknowledged 7 = .ok (.aload_n 0, 1) := by decide +kernel
theorem dX0_isAcknowledged_8 : decode cX0_isAcknowledged 8 = .ok (.getfield 19, 3) := by decide +kernel
theorem dX0_isAcknowledged_11 : decode cX0_isAcknowledged 11 = .ok (.iconst 0, 1) := by decide +kernel
theorem dX0_isAcknowledged_12 : decode cX0_isAcknowledged 12 = .ok (.aaload, 1) := by decide +kernel
theorem dX0_isAcknowledged_13 : decode cX0_isAcknowledged 13 = .ok (.invokevirtual 41, 3) := by decide +kernel
theorem dX0_isAcknowledged_16 : decode cX0_isAcknowledged 16 = .ok (.aload_n 0, 1) := by decide +kernel
theorem dX0_isAcknowledged_17 : decode cX0_isAcknowledged 17 = .ok (.getfield 19, 3) := by decide +kernel
theorem dX0_isAcknowledged_20 : decode cX0_isAcknowledged 20 = .ok (.iconst 1, 1) := by decide +kernel
theorem dX0_isAcknowledged_21 : decode cX0_isAcknowledged 21 = .ok (.aaload, 1) := by decide +kernel
theorem dX0_isAcknowledged_22 : decode cX0_isAcknowledged 22 = .ok (.invokevirtual 41, 3) := by decide +kernel
theorem dX0_isAcknowledged_25 : decode cX0_isAcknowledged 25 = .ok (.invokestatic 45, 3) := by decide +kernel
theorem dX0_isAcknowledged_28 : decode cX0_isAcknowledged 28 = .ok (.aload_n 0, 1) := by decide +kernel
theorem dX0_isAcknowledged_29 : decode cX0_isAcknowledged 29 = .ok (.getfield 25, 3) := by decide +kernel
theorem dX0_isAcknowledged_32 : decode cX0_isAcknowledged 32 = .ok (.if_icmp .ne 7, 3) := by decide +kernel
theorem dX0_isAcknowledged_35 : decode cX0_isAcknowledged 35 = .ok (.iconst 1, 1) := by decide +kernel
theorem dX0_isAcknowledged_36 : decode cX0_isAcknowledged 36 = .ok (.goto 4, 3) := by decide +kernel
theorem dX0_isAcknowledged_39 : decode cX0_isAcknowledged 39 = .ok (.iconst 0, 1) := by decide +kernel
theorem dX0_isAcknowledged_40 : decode cX0_isAcknowledged 40 = .ok (.ireturn, 1) := by decide +kernel
theorem dX0_countedAnswer_0 : decode cX0_countedAnswer 0 = .ok (.aload_n 0, 1) := by decide +kernel
theorem dX0_countedAnswer_1 : decode cX0_countedAnswer 1 = .ok (.getfield 19, 3) := by decide +kernel
theorem dX0_countedAnswer_4 : decode cX0_countedAnswer 4 = .ok (.iconst 0, 1) := by decide +kernel
theorem dX0_countedAnswer_5 : decode cX0_countedAnswer 5 = .ok (.aaload, 1) := by decide +kernel
theorem dX0_countedAnswer_6 : decode cX0_countedAnswer 6 = .ok (.getfield 51, 3) := by decide +kernel
theorem dX0_countedAnswer_9 : decode cX0_countedAnswer 9 = .ok (.aload_n 0, 1) := by decide +kernel
theorem dX0_countedAnswer_10 : decode cX0_countedAnswer 10 = .ok (.getfield 19, 3) := by decide +kernel
theorem dX0_countedAnswer_13 : decode cX0_countedAnswer 13 = .ok (.iconst 1, 1) := by decide +kernel
theorem dX0_countedAnswer_14 : decode cX0_countedAnswer 14 = .ok (.aaload, 1) := by decide +kernel
theorem dX0_countedAnswer_15 : decode cX0_countedAnswer 15 = .ok (.getfield 51, 3) := by decide +kernel
theorem dX0_countedAnswer_18 : decode cX0_countedAnswer 18 = .ok (.if_icmp .lt 12, 3) := by decide +kernel
theorem dX0_countedAnswer_21 : decode cX0_countedAnswer 21 = .ok (.aload_n 0, 1) := by decide +kernel
theorem dX0_countedAnswer_22 : decode cX0_countedAnswer 22 = .ok (.getfield 19, 3) := by decide +kernel
theorem dX0_countedAnswer_25 : decode cX0_countedAnswer 25 = .ok (.iconst 0, 1) := by decide +kernel
theorem dX0_countedAnswer_26 : decode cX0_countedAnswer 26 = .ok (.aaload, 1) := by decide +kernel
theorem dX0_countedAnswer_27 : decode cX0_countedAnswer 27 = .ok (.goto 9, 3) := by decide +kernel
theorem dX0_countedAnswer_30 : decode cX0_countedAnswer 30 = .ok (.aload_n 0, 1) := by decide +kernel
theorem dX0_countedAnswer_31 : decode cX0_countedAnswer 31 = .ok (.getfield 19, 3) := by decide +kernel
theorem dX0_countedAnswer_34 : decode cX0_countedAnswer 34 = .ok (.iconst 1, 1) := by decide +kernel
theorem dX0_countedAnswer_35 : decode cX0_countedAnswer 35 = .ok (.aaload, 1) := by decide +kernel
theorem dX0_countedAnswer_36 : decode cX0_countedAnswer 36 = .ok (.astore_n 1, 1) := by decide +kernel
theorem dX0_countedAnswer_37 : decode cX0_countedAnswer 37 = .ok (.aload_n 1, 1) := by decide +kernel
theorem dX0_countedAnswer_38 : decode cX0_countedAnswer 38 = .ok (.getfield 51, 3) := by decide +kernel
theorem dX0_countedAnswer_41 : decode cX0_countedAnswer 41 = .ok (.ifCond .le 10, 3) := by decide +kernel
theorem dX0_countedAnswer_44 : decode cX0_countedAnswer 44 = .ok (.aload_n 1, 1) := by decide +kernel
theorem dX0_countedAnswer_45 : decode cX0_countedAnswer 45 = .ok (.getfield 54, 3) := by decide +kernel
theorem dX0_countedAnswer_48 : decode cX0_countedAnswer 48 = .ok (.goto 5, 3) := by decide +kernel
theorem dX0_countedAnswer_51 : decode cX0_countedAnswer 51 = .ok (.bipush (-4), 2) := by decide +kernel
theorem dX0_countedAnswer_53 : decode cX0_countedAnswer 53 = .ok (.ireturn, 1) := by decide +kernel
theorem dX1_init_0 : decode cX1_init 0 = .ok (.aload_n 0, 1) := by decide +kernel
theorem dX1_init_1 : decode cX1_init 1 = .ok (.invokespecial 3, 3) := by decide +kernel
theorem dX1_init_4 : decode cX1_init 4 = .ok (.aload_n 0, 1) := by decide +kernel
theorem dX1_init_5 : decode cX1_init 5 = .ok (.iconst 5, 1) := by decide +kernel
theorem dX1_init_6 : decode cX1_init 6 = .ok (.iconst 5, 1) := by decide +kernel
theorem dX1_init_7 : decode cX1_init 7 = .ok (.multianewarray 11 2, 4) := by decide +kernel
theorem dX1_init_11 : decode cX1_init 11 = .ok (.putfield 13, 3) := by decide +kernel
theorem dX1_init_14 : decode cX1_init 14 = .ok (.aload_n 0, 1) := by decide +kernel
theorem dX1_init_15 : decode cX1_init 15 = .ok (.iconst 5, 1) := by decide +kernel
theorem dX1_init_16 : decode cX1_init 16 = .ok (.newarray .int, 2) := by decide +kernel
theorem dX1_init_18 : decode cX1_init 18 = .ok (.putfield 18, 3) := by decide +kernel
theorem dX1_init_21 : decode cX1_init 21 = .ok (.return_, 1) := by decide +kernel
theorem dX1_join_0 : decode cX1_join 0 = .ok (.iload_n 3, 1) := by decide +kernel
theorem dX1_join_1 : decode cX1_join 1 = .ok (.iconst 2, 1) := by decide +kernel
theorem dX1_join_2 : decode cX1_join 2 = .ok (.iconst 5, 1) := by decide +kernel
theorem dX1_join_3 : decode cX1_join 3 = .ok (.invokestatic 22, 3) := by decide +kernel
theorem dX1_join_6 : decode cX1_join 6 = .ok (.ifCond .ne 4, 3) := by decide +kernel
theorem dX1_join_9 : decode cX1_join 9 = .ok (.return_, 1) := by decide +kernel
theorem dX1_join_10 : decode cX1_join 10 = .ok (.aload_n 0, 1) := by decide +kernel
theorem dX1_join_11 : decode cX1_join 11 = .ok (.aload_n 1, 1) := by decide +kernel
theorem dX1_join_12 : decode cX1_join 12 = .ok (.iload_n 2, 1) := by decide +kernel
theorem dX1_join_13 : decode cX1_join 13 = .ok (.iload_n 3, 1) := by decide +kernel
theorem dX1_join_14 : decode cX1_join 14 = .ok (.invokevirtual 26, 3) := by decide +kernel
theorem dX1_join_17 : decode cX1_join 17 = .ok (.aload_n 0, 1) := by decide +kernel
theorem dX1_join_18 : decode cX1_join 18 = .ok (.ldc 32, 2) := by decide +kernel
theorem dX1_join_20 : decode cX1_join 20 = .ok (.putfield 33, 3) := by decide +kernel
theorem dX1_join_23 : decode cX1_join 23 = .ok (.iconst 0, 1) := by decide +kernel
theorem dX1_join_24 : decode cX1_join 24 = .ok (.istore 4, 2) := by decide +kernel
theorem dX1_join_26 : decode cX1_join 26 = .ok (.iload 4, 2) := by decide +kernel
theorem dX1_join_28 : decode cX1_join 28 = .ok (.getstatic 37, 3) := by decide +kernel
theorem dX1_join_31 : decode cX1_join 31 = .ok (.iload_n 3, 1) := by decide +kernel
theorem dX1_join_32 : decode cX1_join 32 = .ok (.iaload, 1) := by decide +kernel
theorem dX1_join_33 : decode cX1_join 33 = .ok (.if_icmp .ge 47, 3) := by decide +kernel
theorem dX1_join_36 : decode cX1_join 36 = .ok (.aload_n 0, 1) := by decide +kernel
theorem dX1_join_37 : decode cX1_join 37 = .ok (.iload 4, 2) := by decide +kernel
theorem dX1_join_39 : decode cX1_join 39 = .ok (.iload_n 3, 1) := by decide +kernel
theorem dX1_join_40 : decode cX1_join 40 = .ok (.invokevirtual 40, 3) := by decide +kernel
theorem dX1_join_43 : decode cX1_join 43 = .ok (.aload_n 0, 1) := by decide +kernel
theorem dX1_join_44 : decode cX1_join 44 = .ok (.iload_n 3, 1) := by decide +kernel
theorem dX1_join_45 : decode cX1_join 45 = .ok (.invokevirtual 44, 3) := by decide +kernel
theorem dX1_join_48 : decode cX1_join 48 = .ok (.istore 5, 2) := by decide +kernel
theorem dX1_join_50 : decode cX1_join 50 = .ok (.iload 5, 2) := by decide +kernel
theorem dX1_join_52 : decode cX1_join 52 = .ok (.aload_n 0, 1) := by decide +kernel
theorem dX1_join_53 : decode cX1_join 53 = .ok (.getfield 33, 3) := by decide +kernel
theorem dX1_join_56 : decode cX1_join 56 = .ok (.if_icmp .ge 18, 3) := by decide +kernel
theorem dX1_join_59 : decode cX1_join 59 = .ok (.aload_n 0, 1) := by decide +kernel
theorem dX1_join_60 : decode cX1_join 60 = .ok (.iload 5, 2) := by decide +kernel
theorem dX1_join_62 : decode cX1_join 62 = .ok (.putfield 33, 3) := by decide +kernel
theorem dX1_join_65 : decode cX1_join 65 = .ok (.aload_n 0, 1) := by decide +kernel
theorem dX1_join_66 : decode cX1_join 66 = .ok (.aload_n 0, 1) := by decide +kernel
theorem dX1_join_67 : decode cX1_join 67 = .ok (.iload_n 3, 1) := by decide +kernel
theorem dX1_join_68 : decode cX1_join 68 = .ok (.invokevirtual 48, 3) := by decide +kernel
theorem dX1_join_71 : decode cX1_join 71 = .ok (.putfield 51, 3) := by decide +kernel
theorem dX1_join_74 : decode cX1_join 74 = .ok (.iinc 4 1, 3) := by decide +kernel
theorem dX1_join_77 : decode cX1_join 77 = .ok (.goto (-51), 3) := by decide +kernel
theorem dX1_join_80 : decode cX1_join 80 = .ok (.return_, 1) := by decide +kernel
theorem dX1_countPairs_0 : decode cX1_countPairs 0 = .ok (.iconst 0, 1) := by decide +kernel
theorem dX1_countPairs_1 : decode cX1_countPairs 1 = .ok (.istore 4, 2) := by decide +kernel
theorem dX1_countPairs_3 : decode cX1_countPairs 3 = .ok (.iload 4, 2) := by decide +kernel
theorem dX1_countPairs_5 : decode cX1_countPairs 5 = .ok (.iload_n 3, 1) := by decide +kernel
theorem dX1_countPairs_6 : decode cX1_countPairs 6 = .ok (.if_icmp .ge 35, 3) := by decide +kernel
theorem dX1_countPairs_9 : decode cX1_countPairs 9 = .ok (.iconst 0, 1) := by decide +kernel
theorem dX1_countPairs_10 : decode cX1_countPairs 10 = .ok (.istore 5, 2) := by decide +kernel
theorem dX1_countPairs_12 : decode cX1_countPairs 12 = .ok (.iload 5, 2) := by decide +kernel
theorem dX1_countPairs_14 : decode cX1_countPairs 14 = .ok (.iload_n 3, 1) := by decide +kernel
theorem dX1_countPairs_15 : decode cX1_countPairs 15 = .ok (.if_icmp .ge 20, 3) := by decide +kernel
theorem dX1_countPairs_18 : decode cX1_countPairs 18 = .ok (.aload_n 0, 1) := by decide +kernel
theorem dX1_countPairs_19 : decode cX1_countPairs 19 = .ok (.getfield 13, 3) := by decide +kernel
theorem dX1_countPairs_22 : decode cX1_countPairs 22 = .ok (.iload 4, 2) := by decide +kernel
theorem dX1_countPairs_24 : decode cX1_countPairs 24 = .ok (.aaload, 1) := by decide +kernel
theorem dX1_countPairs_25 : decode cX1_countPairs 25 = .ok (.iload 5, 2) := by decide +kernel
theorem dX1_countPairs_27 : decode cX1_countPairs 27 = .ok (.iconst 0, 1) := by decide +kernel
theorem dX1_countPairs_28 : decode cX1_countPairs 28 = .ok (.iastore, 1) := by decide +kernel
theorem dX1_countPairs_29 : decode cX1_countPairs 29 = .ok (.iinc 5 1, 3) := by decide +kernel
theorem dX1_countPairs_32 : decode cX1_countPairs 32 = .ok (.goto (-20), 3) := by decide +kernel
theorem dX1_countPairs_35 : decode cX1_countPairs 35 = .ok (.iinc 4 1, 3) := by decide +kernel
theorem dX1_countPairs_38 : decode cX1_countPairs 38 = .ok (.goto (-35), 3) := by decide +kernel
theorem dX1_countPairs_41 : decode cX1_countPairs 41 = .ok (.iconst 0, 1) := by decide +kernel
theorem dX1_countPairs_42 : decode cX1_countPairs 42 = .ok (.istore 4, 2) := by decide +kernel
theorem dX1_countPairs_44 : decode cX1_countPairs 44 = .ok (.iload 4, 2) := by decide +kernel
theorem dX1_countPairs_46 : decode cX1_countPairs 46 = .ok (.iload_n 2, 1) := by decide +kernel
theorem dX1_countPairs_47 : decode cX1_countPairs 47 = .ok (.if_icmp .ge 33, 3) := by decide +kernel
theorem dX1_countPairs_50 : decode cX1_countPairs 50 = .ok (.aload_n 1, 1) := by decide +kernel
theorem dX1_countPairs_51 : decode cX1_countPairs 51 = .ok (.iload 4, 2) := by decide +kernel
theorem dX1_countPairs_53 : decode cX1_countPairs 53 = .ok (.aaload, 1) := by decide +kernel
theorem dX1_countPairs_54 : decode cX1_countPairs 54 = .ok (.invokevirtual 54, 3) := by decide +kernel
theorem dX1_countPairs_57 : decode cX1_countPairs 57 = .ok (.bipush (-4), 2) := by decide +kernel
theorem dX1_countPairs_59 : decode cX1_countPairs 59 = .ok (.if_icmp .eq 15, 3) := by decide +kernel
theorem dX1_countPairs_62 : decode cX1_countPairs 62 = .ok (.aload_n 0, 1) := by decide +kernel
theorem dX1_countPairs_63 : decode cX1_countPairs 63 = .ok (.aload_n 1, 1) := by decide +kernel
theorem dX1_countPairs_64 : decode cX1_countPairs 64 = .ok (.iload 4, 2) := by decide +kernel
theorem dX1_countPairs_66 : decode cX1_countPairs 66 = .ok (.aaload, 1) := by decide +kernel
theorem dX1_countPairs_67 : decode cX1_countPairs 67 = .ok (.invokevirtual 54, 3) := by decide +kernel
theorem dX1_countPairs_70 : decode cX1_countPairs 70 = .ok (.iload_n 3, 1) := by decide +kernel
theorem dX1_countPairs_71 : decode cX1_countPairs 71 = .ok (.invokevirtual 60, 3) := by decide +kernel
theorem dX1_countPairs_74 : decode cX1_countPairs 74 = .ok (.iinc 4 1, 3) := by decide +kernel
theorem dX1_countPairs_77 : decode cX1_countPairs 77 = .ok (.goto (-33), 3) := by decide +kernel
theorem dX1_countPairs_80 : decode cX1_countPairs 80 = .ok (.return_, 1) := by decide +kernel
theorem dX1_addPairs_0 : decode cX1_addPairs 0 = .ok (.iconst 0, 1) := by decide +kernel
theorem dX1_addPairs_1 : decode cX1_addPairs 1 = .ok (.istore_n 3, 1) := by decide +kernel
theorem dX1_addPairs_2 : decode cX1_addPairs 2 = .ok (.iload_n 3, 1) := by decide +kernel
theorem dX1_addPairs_3 : decode cX1_addPairs 3 = .ok (.iload_n 2, 1) := by decide +kernel
theorem dX1_addPairs_4 : decode cX1_addPairs 4 = .ok (.if_icmp .ge 73, 3) := by decide +kernel
theorem dX1_addPairs_7 : decode cX1_addPairs 7 = .ok (.iload_n 3, 1) := by decide +kernel
theorem dX1_addPairs_8 : decode cX1_addPairs 8 = .ok (.iconst 1, 1) := by decide +kernel
theorem dX1_addPairs_9 : decode cX1_addPairs 9 = .ok (.iadd, 1) := by decide +kernel
theorem dX1_addPairs_10 : decode cX1_addPairs 10 = .ok (.istore 4, 2) := by decide +kernel
theorem dX1_addPairs_12 : decode cX1_addPairs 12 = .ok (.iload 4, 2) := by decide +kernel
theorem dX1_addPairs_14 : decode cX1_addPairs 14 = .ok (.iload_n 2, 1) := by decide +kernel
theorem dX1_addPairs_15 : decode cX1_addPairs 15 = .ok (.if_icmp .ge 56, 3) := by decide +kernel
theorem dX1_addPairs_18 : decode cX1_addPairs 18 = .ok (.iload_n 1, 1) := by decide +kernel
theorem dX1_addPairs_19 : decode cX1_addPairs 19 = .ok (.iconst 3, 1) := by decide +kernel
theorem dX1_addPairs_20 : decode cX1_addPairs 20 = .ok (.iload_n 3, 1) := by decide +kernel
theorem dX1_addPairs_21 : decode cX1_addPairs 21 = .ok (.imul, 1) := by decide +kernel
theorem dX1_addPairs_22 : decode cX1_addPairs 22 = .ok (.ishr, 1) := by decide +kernel
theorem dX1_addPairs_23 : decode cX1_addPairs 23 = .ok (.bipush 7, 2) := by decide +kernel
theorem dX1_addPairs_25 : decode cX1_addPairs 25 = .ok (.iand, 1) := by decide +kernel
theorem dX1_addPairs_26 : decode cX1_addPairs 26 = .ok (.istore 5, 2) := by decide +kernel
theorem dX1_addPairs_28 : decode cX1_addPairs 28 = .ok (.iload_n 1, 1) := by decide +kernel
theorem dX1_addPairs_29 : decode cX1_addPairs 29 = .ok (.iconst 3, 1) := by decide +kernel
theorem dX1_addPairs_30 : decode cX1_addPairs 30 = .ok (.iload 4, 2) := by decide +kernel
theorem dX1_addPairs_32 : decode cX1_addPairs 32 = .ok (.imul, 1) := by decide +kernel
theorem dX1_addPairs_33 : decode cX1_addPairs 33 = .ok (.ishr, 1) := by decide +kernel
theorem dX1_addPairs_34 : decode cX1_addPairs 34 = .ok (.bipush 7, 2) := by decide +kernel
theorem dX1_addPairs_36 : decode cX1_addPairs 36 = .ok (.iand, 1) := by decide +kernel
theorem dX1_addPairs_37 : decode cX1_addPairs 37 = .ok (.istore 6, 2) := by decide +kernel
theorem dX1_addPairs_39 : decode cX1_addPairs 39 = .ok (.iload 5, 2) := by decide +kernel
theorem dX1_addPairs_41 : decode cX1_addPairs 41 = .ok (.iload_n 2, 1) := by decide +kernel
theorem dX1_addPairs_42 : decode cX1_addPairs 42 = .ok (.if_icmp .ge 23, 3) := by decide +kernel
theorem dX1_addPairs_45 : decode cX1_addPairs 45 = .ok (.iload 6, 2) := by decide +kernel
theorem dX1_addPairs_47 : decode cX1_addPairs 47 = .ok (.iload_n 2, 1) := by decide +kernel
theorem dX1_addPairs_48 : decode cX1_addPairs 48 = .ok (.if_icmp .ge 17, 3) := by decide +kernel
theorem dX1_addPairs_51 : decode cX1_addPairs 51 = .ok (.aload_n 0, 1) := by decide +kernel
theorem dX1_addPairs_52 : decode cX1_addPairs 52 = .ok (.getfield 13, 3) := by decide +kernel
theorem dX1_addPairs_55 : decode cX1_addPairs 55 = .ok (.iload 5, 2) := by decide +kernel
theorem dX1_addPairs_57 : decode cX1_addPairs 57 = .ok (.aaload, 1) := by decide +kernel
theorem dX1_addPairs_58 : decode cX1_addPairs 58 = .ok (.iload 6, 2) := by decide +kernel
theorem dX1_addPairs_60 : decode cX1_addPairs 60 = .ok (.dup2, 1) := by decide +kernel
theorem dX1_addPairs_61 : decode cX1_addPairs 61 = .ok (.iaload, 1) := by decide +kernel
theorem dX1_addPairs_62 : decode cX1_addPairs 62 = .ok (.iconst 1, 1) := by decide +kernel
theorem dX1_addPairs_63 : decode cX1_addPairs 63 = .ok (.iadd, 1) := by decide +kernel
theorem dX1_addPairs_64 : decode cX1_addPairs 64 = .ok (.iastore, 1) := by decide +kernel
theorem dX1_addPairs_65 : decode cX1_addPairs 65 = .ok (.iinc 4 1, 3) := by decide +kernel
theorem dX1_addPairs_68 : decode cX1_addPairs 68 = .ok (.goto (-56), 3) := by decide +kernel
theorem dX1_addPairs_71 : decode cX1_addPairs 71 = .ok (.iinc 3 1, 3) := by decide +kernel
theorem dX1_addPairs_74 : decode cX1_addPairs 74 = .ok (.goto (-72), 3) := by decide +kernel
theorem dX1_addPairs_77 : decode cX1_addPairs 77 = .ok (.return_, 1) := by decide +kernel
theorem dX1_layOut_0 : decode cX1_layOut 0 = .ok (.iconst 0, 1) := by decide +kernel
theorem dX1_layOut_1 : decode cX1_layOut 1 = .ok (.istore_n 3, 1) := by decide +kernel
theorem dX1_layOut_2 : decode cX1_layOut 2 = .ok (.iload_n 1, 1) := by decide +kernel
theorem dX1_layOut_3 : decode cX1_layOut 3 = .ok (.istore 4, 2) := by decide +kernel
theorem dX1_layOut_5 : decode cX1_layOut 5 = .ok (.iconst 0, 1) := by decide +kernel
theorem dX1_layOut_6 : decode cX1_layOut 6 = .ok (.istore 5, 2) := by decide +kernel
theorem dX1_layOut_8 : decode cX1_layOut 8 = .ok (.iload 5, 2) := by decide +kernel
theorem dX1_layOut_10 : decode cX1_layOut 10 = .ok (.iload_n 2, 1) := by decide +kernel
theorem dX1_layOut_11 : decode cX1_layOut 11 = .ok (.if_icmp .ge 56, 3) := by decide +kernel
theorem dX1_layOut_14 : decode cX1_layOut 14 = .ok (.getstatic 37, 3) := by decide +kernel
theorem dX1_layOut_17 : decode cX1_layOut 17 = .ok (.iload_n 2, 1) := by decide +kernel
theorem dX1_layOut_18 : decode cX1_layOut 18 = .ok (.iconst 1, 1) := by decide +kernel
theorem dX1_layOut_19 : decode cX1_layOut 19 = .ok (.isub, 1) := by decide +kernel
theorem dX1_layOut_20 : decode cX1_layOut 20 = .ok (.iload 5, 2) := by decide +kernel
theorem dX1_layOut_22 : decode cX1_layOut 22 = .ok (.isub, 1) := by decide +kernel
theorem dX1_layOut_23 : decode cX1_layOut 23 = .ok (.iaload, 1) := by decide +kernel
theorem dX1_layOut_24 : decode cX1_layOut 24 = .ok (.istore 6, 2) := by decide +kernel
theorem dX1_layOut_26 : decode cX1_layOut 26 = .ok (.iload_n 3, 1) := by decide +kernel
theorem dX1_layOut_27 : decode cX1_layOut 27 = .ok (.iload 4, 2) := by decide +kernel
theorem dX1_layOut_29 : decode cX1_layOut 29 = .ok (.iload 6, 2) := by decide +kernel
theorem dX1_layOut_31 : decode cX1_layOut 31 = .ok (.idiv, 1) := by decide +kernel
theorem dX1_layOut_32 : decode cX1_layOut 32 = .ok (.iload_n 2, 1) := by decide +kernel
theorem dX1_layOut_33 : decode cX1_layOut 33 = .ok (.invokestatic 63, 3) := by decide +kernel
theorem dX1_layOut_36 : decode cX1_layOut 36 = .ok (.istore 7, 2) := by decide +kernel
theorem dX1_layOut_38 : decode cX1_layOut 38 = .ok (.iload 4, 2) := by decide +kernel
theorem dX1_layOut_40 : decode cX1_layOut 40 = .ok (.iload 6, 2) := by decide +kernel
theorem dX1_layOut_42 : decode cX1_layOut 42 = .ok (.irem, 1) := by decide +kernel
theorem dX1_layOut_43 : decode cX1_layOut 43 = .ok (.istore 4, 2) := by decide +kernel
theorem dX1_layOut_45 : decode cX1_layOut 45 = .ok (.iload_n 3, 1) := by decide +kernel
theorem dX1_layOut_46 : decode cX1_layOut 46 = .ok (.iconst 1, 1) := by decide +kernel
theorem dX1_layOut_47 : decode cX1_layOut 47 = .ok (.iload 7, 2) := by decide +kernel
theorem dX1_layOut_49 : decode cX1_layOut 49 = .ok (.ishl, 1) := by decide +kernel
theorem dX1_layOut_50 : decode cX1_layOut 50 = .ok (.ior, 1) := by decide +kernel
theorem dX1_layOut_51 : decode cX1_layOut 51 = .ok (.istore_n 3, 1) := by decide +kernel
theorem dX1_layOut_52 : decode cX1_layOut 52 = .ok (.aload_n 0, 1) := by decide +kernel
theorem dX1_layOut_53 : decode cX1_layOut 53 = .ok (.getfield 18, 3) := by decide +kernel
theorem dX1_layOut_56 : decode cX1_layOut 56 = .ok (.iload 5, 2) := by decide +kernel
theorem dX1_layOut_58 : decode cX1_layOut 58 = .ok (.iload 7, 2) := by decide +kernel
theorem dX1_layOut_60 : decode cX1_layOut 60 = .ok (.iastore, 1) := by decide +kernel
theorem dX1_layOut_61 : decode cX1_layOut 61 = .ok (.iinc 5 1, 3) := by decide +kernel
theorem dX1_layOut_64 : decode cX1_layOut 64 = .ok (.goto (-56), 3) := by decide +kernel
theorem dX1_layOut_67 : decode cX1_layOut 67 = .ok (.return_, 1) := by decide +kernel
theorem dX1_turnedPairs_0 : decode cX1_turnedPairs 0 = .ok (.iconst 0, 1) := by decide +kernel
theorem dX1_turnedPairs_1 : decode cX1_turnedPairs 1 = .ok (.istore_n 2, 1) := by decide +kernel
theorem dX1_turnedPairs_2 : decode cX1_turnedPairs 2 = .ok (.iconst 0, 1) := by decide +kernel
theorem dX1_turnedPairs_3 : decode cX1_turnedPairs 3 = .ok (.istore_n 3, 1) := by decide +kernel
theorem dX1_turnedPairs_4 : decode cX1_turnedPairs 4 = .ok (.iload_n 3, 1) := by decide +kernel
theorem dX1_turnedPairs_5 : decode cX1_turnedPairs 5 = .ok (.iload_n 1, 1) := by decide +kernel
theorem dX1_turnedPairs_6 : decode cX1_turnedPairs 6 = .ok (.if_icmp .ge 48, 3) := by decide +kernel
theorem dX1_turnedPairs_9 : decode cX1_turnedPairs 9 = .ok (.iload_n 3, 1) := by decide +kernel
theorem dX1_turnedPairs_10 : decode cX1_turnedPairs 10 = .ok (.iconst 1, 1) := by decide +kernel
theorem dX1_turnedPairs_11 : decode cX1_turnedPairs 11 = .ok (.iadd, 1) := by decide +kernel
theorem dX1_turnedPairs_12 : decode cX1_turnedPairs 12 = .ok (.istore 4, 2) := by decide +kernel
theorem dX1_turnedPairs_14 : decode cX1_turnedPairs 14 = .ok (.iload 4, 2) := by decide +kernel
theorem dX1_turnedPairs_16 : decode cX1_turnedPairs 16 = .ok (.iload_n 1, 1) := by decide +kernel
theorem dX1_turnedPairs_17 : decode cX1_turnedPairs 17 = .ok (.if_icmp .ge 31, 3) := by decide +kernel
theorem dX1_turnedPairs_20 : decode cX1_turnedPairs 20 = .ok (.iload_n 2, 1) := by decide +kernel
theorem dX1_turnedPairs_21 : decode cX1_turnedPairs 21 = .ok (.aload_n 0, 1) := by decide +kernel
theorem dX1_turnedPairs_22 : decode cX1_turnedPairs 22 = .ok (.getfield 13, 3) := by decide +kernel
theorem dX1_turnedPairs_25 : decode cX1_turnedPairs 25 = .ok (.aload_n 0, 1) := by decide +kernel
theorem dX1_turnedPairs_26 : decode cX1_turnedPairs 26 = .ok (.getfield 18, 3) := by decide +kernel
theorem dX1_turnedPairs_29 : decode cX1_turnedPairs 29 = .ok (.iload 4, 2) := by decide +kernel
theorem dX1_turnedPairs_31 : decode cX1_turnedPairs 31 = .ok (.iaload, 1) := by decide +kernel
theorem dX1_turnedPairs_32 : decode cX1_turnedPairs 32 = .ok (.aaload, 1) := by decide +kernel
theorem dX1_turnedPairs_33 : decode cX1_turnedPairs 33 = .ok (.aload_n 0, 1) := by decide +kernel
theorem dX1_turnedPairs_34 : decode cX1_turnedPairs 34 = .ok (.getfield 18, 3) := by decide +kernel
theorem dX1_turnedPairs_37 : decode cX1_turnedPairs 37 = .ok (.iload_n 3, 1) := by decide +kernel
theorem dX1_turnedPairs_38 : decode cX1_turnedPairs 38 = .ok (.iaload, 1) := by decide +kernel
theorem dX1_turnedPairs_39 : decode cX1_turnedPairs 39 = .ok (.iaload, 1) := by decide +kernel
theorem dX1_turnedPairs_40 : decode cX1_turnedPairs 40 = .ok (.iadd, 1) := by decide +kernel
theorem dX1_turnedPairs_41 : decode cX1_turnedPairs 41 = .ok (.istore_n 2, 1) := by decide +kernel
theorem dX1_turnedPairs_42 : decode cX1_turnedPairs 42 = .ok (.iinc 4 1, 3) := by decide +kernel
theorem dX1_turnedPairs_45 : decode cX1_turnedPairs 45 = .ok (.goto (-31), 3) := by decide +kernel
theorem dX1_turnedPairs_48 : decode cX1_turnedPairs 48 = .ok (.iinc 3 1, 3) := by decide +kernel
theorem dX1_turnedPairs_51 : decode cX1_turnedPairs 51 = .ok (.goto (-47), 3) := by decide +kernel
theorem dX1_turnedPairs_54 : decode cX1_turnedPairs 54 = .ok (.iload_n 2, 1) := by decide +kernel
theorem dX1_turnedPairs_55 : decode cX1_turnedPairs 55 = .ok (.ireturn, 1) := by decide +kernel
theorem dX1_asAnswer_0 : decode cX1_asAnswer 0 = .ok (.iconst 0, 1) := by decide +kernel
theorem dX1_asAnswer_1 : decode cX1_asAnswer 1 = .ok (.istore_n 2, 1) := by decide +kernel
theorem dX1_asAnswer_2 : decode cX1_asAnswer 2 = .ok (.iconst 0, 1) := by decide +kernel
theorem dX1_asAnswer_3 : decode cX1_asAnswer 3 = .ok (.istore_n 3, 1) := by decide +kernel
theorem dX1_asAnswer_4 : decode cX1_asAnswer 4 = .ok (.iload_n 3, 1) := by decide +kernel
theorem dX1_asAnswer_5 : decode cX1_asAnswer 5 = .ok (.iload_n 1, 1) := by decide +kernel
theorem dX1_asAnswer_6 : decode cX1_asAnswer 6 = .ok (.if_icmp .ge 22, 3) := by decide +kernel
theorem dX1_asAnswer_9 : decode cX1_asAnswer 9 = .ok (.iload_n 2, 1) := by decide +kernel
theorem dX1_asAnswer_10 : decode cX1_asAnswer 10 = .ok (.aload_n 0, 1) := by decide +kernel
theorem dX1_asAnswer_11 : decode cX1_asAnswer 11 = .ok (.getfield 18, 3) := by decide +kernel
theorem dX1_asAnswer_14 : decode cX1_asAnswer 14 = .ok (.iload_n 3, 1) := by decide +kernel
theorem dX1_asAnswer_15 : decode cX1_asAnswer 15 = .ok (.iaload, 1) := by decide +kernel
theorem dX1_asAnswer_16 : decode cX1_asAnswer 16 = .ok (.iconst 3, 1) := by decide +kernel
theorem dX1_asAnswer_17 : decode cX1_asAnswer 17 = .ok (.iload_n 3, 1) := by decide +kernel
theorem dX1_asAnswer_18 : decode cX1_asAnswer 18 = .ok (.imul, 1) := by decide +kernel
theorem dX1_asAnswer_19 : decode cX1_asAnswer 19 = .ok (.ishl, 1) := by decide +kernel
theorem dX1_asAnswer_20 : decode cX1_asAnswer 20 = .ok (.ior, 1) := by decide +kernel
theorem dX1_asAnswer_21 : decode cX1_asAnswer 21 = .ok (.istore_n 2, 1) := by decide +kernel
theorem dX1_asAnswer_22 : decode cX1_asAnswer 22 = .ok (.iinc 3 1, 3) := by decide +kernel
theorem dX1_asAnswer_25 : decode cX1_asAnswer 25 = .ok (.goto (-21), 3) := by decide +kernel
theorem dX1_asAnswer_28 : decode cX1_asAnswer 28 = .ok (.iload_n 2, 1) := by decide +kernel
theorem dX1_asAnswer_29 : decode cX1_asAnswer 29 = .ok (.ireturn, 1) := by decide +kernel
theorem dX2_init_0 : decode cX2_init 0 = .ok (.aload_n 0, 1) := by decide +kernel
theorem dX2_init_1 : decode cX2_init 1 = .ok (.invokespecial 1, 3) := by decide +kernel
theorem dX2_init_4 : decode cX2_init 4 = .ok (.return_, 1) := by decide +kernel
theorem dX2_forget_0 : decode cX2_forget 0 = .ok (.aload_n 0, 1) := by decide +kernel
theorem dX2_forget_1 : decode cX2_forget 1 = .ok (.iconst 0, 1) := by decide +kernel
theorem dX2_forget_2 : decode cX2_forget 2 = .ok (.putfield 7, 3) := by decide +kernel
theorem dX2_forget_5 : decode cX2_forget 5 = .ok (.aload_n 0, 1) := by decide +kernel
theorem dX2_forget_6 : decode cX2_forget 6 = .ok (.iconst 0, 1) := by decide +kernel
theorem dX2_forget_7 : decode cX2_forget 7 = .ok (.putfield 13, 3) := by decide +kernel
theorem dX2_forget_10 : decode cX2_forget 10 = .ok (.aload_n 0, 1) := by decide +kernel
theorem dX2_forget_11 : decode cX2_forget 11 = .ok (.iconst 0, 1) := by decide +kernel
theorem dX2_forget_12 : decode cX2_forget 12 = .ok (.putfield 16, 3) := by decide +kernel
theorem dX2_forget_15 : decode cX2_forget 15 = .ok (.return_, 1) := by decide +kernel
theorem dX2_take_0 : decode cX2_take 0 = .ok (.iload_n 3, 1) := by decide +kernel
theorem dX2_take_1 : decode cX2_take 1 = .ok (.ifCond .ne 18, 3) := by decide +kernel
theorem dX2_take_4 : decode cX2_take 4 = .ok (.aload_n 0, 1) := by decide +kernel
theorem dX2_take_5 : decode cX2_take 5 = .ok (.aload_n 0, 1) := by decide +kernel
theorem dX2_take_6 : decode cX2_take 6 = .ok (.getfield 16, 3) := by decide +kernel
theorem dX2_take_9 : decode cX2_take 9 = .ok (.iload_n 2, 1) := by decide +kernel
theorem dX2_take_10 : decode cX2_take 10 = .ok (.invokestatic 19, 3) := by decide +kernel
theorem dX2_take_13 : decode cX2_take 13 = .ok (.putfield 16, 3) := by decide +kernel
theorem dX2_take_16 : decode cX2_take 16 = .ok (.goto 21, 3) := by decide +kernel
theorem dX2_take_19 : decode cX2_take 19 = .ok (.iload_n 2, 1) := by decide +kernel
theorem dX2_take_20 : decode cX2_take 20 = .ok (.aload_n 0, 1) := by decide +kernel
theorem dX2_take_21 : decode cX2_take 21 = .ok (.getfield 13, 3) := by decide +kernel
theorem dX2_take_24 : decode cX2_take 24 = .ok (.if_icmp .le 13, 3) := by decide +kernel
theorem dX2_take_27 : decode cX2_take 27 = .ok (.aload_n 0, 1) := by decide +kernel
theorem dX2_take_28 : decode cX2_take 28 = .ok (.iload_n 2, 1) := by decide +kernel
theorem dX2_take_29 : decode cX2_take 29 = .ok (.putfield 13, 3) := by decide +kernel
theorem dX2_take_32 : decode cX2_take 32 = .ok (.aload_n 0, 1) := by decide +kernel
theorem dX2_take_33 : decode cX2_take 33 = .ok (.iload_n 1, 1) := by decide +kernel
theorem dX2_take_34 : decode cX2_take 34 = .ok (.putfield 7, 3) := by decide +kernel
theorem dX2_take_37 : decode cX2_take 37 = .ok (.return_, 1) := by decide +kernel
theorem dX2_greatestCount_0 : decode cX2_greatestCount 0 = .ok (.aload_n 0, 1) := by decide +kernel
theorem dX2_greatestCount_1 : decode cX2_greatestCount 1 = .ok (.getfield 13, 3) := by decide +kernel
theorem dX2_greatestCount_4 : decode cX2_greatestCount 4 = .ok (.aload_n 0, 1) := by decide +kernel
theorem dX2_greatestCount_5 : decode cX2_greatestCount 5 = .ok (.getfield 16, 3) := by decide +kernel
theorem dX2_greatestCount_8 : decode cX2_greatestCount 8 = .ok (.invokestatic 19, 3) := by decide +kernel
theorem dX2_greatestCount_11 : decode cX2_greatestCount 11 = .ok (.ireturn, 1) := by decide +kernel
theorem dX3_init_0 : decode cX3_init 0 = .ok (.aload_n 0, 1) := by decide +kernel
theorem dX3_init_1 : decode cX3_init 1 = .ok (.invokespecial 3, 3) := by decide +kernel
theorem dX3_init_4 : decode cX3_init 4 = .ok (.aload_n 0, 1) := by decide +kernel
theorem dX3_init_5 : decode cX3_init 5 = .ok (.bipush 20, 2) := by decide +kernel
theorem dX3_init_7 : decode cX3_init 7 = .ok (.bipush 16, 2) := by decide +kernel
theorem dX3_init_9 : decode cX3_init 9 = .ok (.multianewarray 11 2, 4) := by decide +kernel
theorem dX3_init_13 : decode cX3_init 13 = .ok (.putfield 13, 3) := by decide +kernel
theorem dX3_init_16 : decode cX3_init 16 = .ok (.return_, 1) := by decide +kernel
theorem dX3_isFull_0 : decode cX3_isFull 0 = .ok (.aload_n 0, 1) := by decide +kernel
theorem dX3_isFull_1 : decode cX3_isFull 1 = .ok (.getfield 16, 3) := by decide +kernel
theorem dX3_isFull_4 : decode cX3_isFull 4 = .ok (.bipush 20, 2) := by decide +kernel
theorem dX3_isFull_6 : decode cX3_isFull 6 = .ok (.if_icmp .lt 7, 3) := by decide +kernel
theorem dX3_isFull_9 : decode cX3_isFull 9 = .ok (.iconst 1, 1) := by decide +kernel
theorem dX3_isFull_10 : decode cX3_isFull 10 = .ok (.goto 4, 3) := by decide +kernel
theorem dX3_isFull_13 : decode cX3_isFull 13 = .ok (.iconst 0, 1) := by decide +kernel
theorem dX3_isFull_14 : decode cX3_isFull 14 = .ok (.ireturn, 1) := by decide +kernel
theorem dX3_enter_0 : decode cX3_enter 0 = .ok (.aload_n 0, 1) := by decide +kernel
theorem dX3_enter_1 : decode cX3_enter 1 = .ok (.invokevirtual 20, 3) := by decide +kernel
theorem dX3_enter_4 : decode cX3_enter 4 = .ok (.ifCond .eq 6, 3) := by decide +kernel
theorem dX3_enter_7 : decode cX3_enter 7 = .ok (.bipush (-3), 2) := by decide +kernel
theorem dX3_enter_9 : decode cX3_enter 9 = .ok (.ireturn, 1) := by decide +kernel
theorem dX3_enter_10 : decode cX3_enter 10 = .ok (.aload_n 0, 1) := by decide +kernel
theorem dX3_enter_11 : decode cX3_enter 11 = .ok (.getfield 13, 3) := by decide +kernel
theorem dX3_enter_14 : decode cX3_enter 14 = .ok (.aload_n 0, 1) := by decide +kernel
theorem dX3_enter_15 : decode cX3_enter 15 = .ok (.getfield 16, 3) := by decide +kernel
theorem dX3_enter_18 : decode cX3_enter 18 = .ok (.aaload, 1) := by decide +kernel
theorem dX3_enter_19 : decode cX3_enter 19 = .ok (.astore 4, 2) := by decide +kernel
theorem dX3_enter_21 : decode cX3_enter 21 = .ok (.iconst 0, 1) := by decide +kernel
theorem dX3_enter_22 : decode cX3_enter 22 = .ok (.istore 5, 2) := by decide +kernel
theorem dX3_enter_24 : decode cX3_enter 24 = .ok (.iconst 0, 1) := by decide +kernel
theorem dX3_enter_25 : decode cX3_enter 25 = .ok (.istore 6, 2) := by decide +kernel
theorem dX3_enter_27 : decode cX3_enter 27 = .ok (.iload 6, 2) := by decide +kernel
theorem dX3_enter_29 : decode cX3_enter 29 = .ok (.bipush 16, 2) := by decide +kernel
theorem dX3_enter_31 : decode cX3_enter 31 = .ok (.if_icmp .ge 60, 3) := by decide +kernel
theorem dX3_enter_34 : decode cX3_enter 34 = .ok (.aload 4, 2) := by decide +kernel
theorem dX3_enter_36 : decode cX3_enter 36 = .ok (.iload 6, 2) := by decide +kernel
theorem dX3_enter_38 : decode cX3_enter 38 = .ok (.iload 6, 2) := by decide +kernel
theorem dX3_enter_40 : decode cX3_enter 40 = .ok (.iload_n 2, 1) := by decide +kernel
theorem dX3_enter_41 : decode cX3_enter 41 = .ok (.if_icmp .ge 17, 3) := by decide +kernel
theorem dX3_enter_44 : decode cX3_enter 44 = .ok (.aload_n 1, 1) := by decide +kernel
theorem dX3_enter_45 : decode cX3_enter 45 = .ok (.iload 6, 2) := by decide +kernel
theorem dX3_enter_47 : decode cX3_enter 47 = .ok (.aaload, 1) := by decide +kernel
theorem dX3_enter_48 : decode cX3_enter 48 = .ok (.invokevirtual 24, 3) := by decide +kernel
theorem dX3_enter_51 : decode cX3_enter 51 = .ok (.iload_n 3, 1) := by decide +kernel
theorem dX3_enter_52 : decode cX3_enter 52 = .ok (.invokestatic 30, 3) := by decide +kernel
theorem dX3_enter_55 : decode cX3_enter 55 = .ok (.goto 4, 3) := by decide +kernel
theorem dX3_enter_58 : decode cX3_enter 58 = .ok (.iconst (-1), 1) := by decide +kernel
theorem dX3_enter_59 : decode cX3_enter 59 = .ok (.iastore, 1) := by decide +kernel
theorem dX3_enter_60 : decode cX3_enter 60 = .ok (.aload 4, 2) := by decide +kernel
theorem dX3_enter_62 : decode cX3_enter 62 = .ok (.iload 6, 2) := by decide +kernel
theorem dX3_enter_64 : decode cX3_enter 64 = .ok (.iaload, 1) := by decide +kernel
theorem dX3_enter_65 : decode cX3_enter 65 = .ok (.iconst 1, 1) := by decide +kernel
theorem dX3_enter_66 : decode cX3_enter 66 = .ok (.if_icmp .ne 19, 3) := by decide +kernel
theorem dX3_enter_69 : decode cX3_enter 69 = .ok (.aload_n 1, 1) := by decide +kernel
theorem dX3_enter_70 : decode cX3_enter 70 = .ok (.iload 6, 2) := by decide +kernel
theorem dX3_enter_72 : decode cX3_enter 72 = .ok (.aaload, 1) := by decide +kernel
theorem dX3_enter_73 : decode cX3_enter 73 = .ok (.dup, 1) := by decide +kernel
theorem dX3_enter_74 : decode cX3_enter 74 = .ok (.getfield 34, 3) := by decide +kernel
theorem dX3_enter_77 : decode cX3_enter 77 = .ok (.iconst 1, 1) := by decide +kernel
theorem dX3_enter_78 : decode cX3_enter 78 = .ok (.iadd, 1) := by decide +kernel
theorem dX3_enter_79 : decode cX3_enter 79 = .ok (.putfield 34, 3) := by decide +kernel
theorem dX3_enter_82 : decode cX3_enter 82 = .ok (.iinc 5 1, 3) := by decide +kernel
theorem dX3_enter_85 : decode cX3_enter 85 = .ok (.iinc 6 1, 3) := by decide +kernel
theorem dX3_enter_88 : decode cX3_enter 88 = .ok (.goto (-61), 3) := by decide +kernel
theorem dX3_enter_91 : decode cX3_enter 91 = .ok (.aload_n 0, 1) := by decide +kernel
theorem dX3_enter_92 : decode cX3_enter 92 = .ok (.dup, 1) := by decide +kernel
theorem dX3_enter_93 : decode cX3_enter 93 = .ok (.getfield 16, 3) := by decide +kernel
theorem dX3_enter_96 : decode cX3_enter 96 = .ok (.iconst 1, 1) := by decide +kernel
theorem dX3_enter_97 : decode cX3_enter 97 = .ok (.iadd, 1) := by decide +kernel
theorem dX3_enter_98 : decode cX3_enter 98 = .ok (.putfield 16, 3) := by decide +kernel
theorem dX3_enter_101 : decode cX3_enter 101 = .ok (.iload 5, 2) := by decide +kernel
theorem dX3_enter_103 : decode cX3_enter 103 = .ok (.ireturn, 1) := by decide +kernel
theorem dX3_judge_0 : decode cX3_judge 0 = .ok (.iload_n 0, 1) := by decide +kernel
theorem dX3_judge_1 : decode cX3_judge 1 = .ok (.bipush (-4), 2) := by decide +kernel
theorem dX3_judge_3 : decode cX3_judge 3 = .ok (.if_icmp .ne 5, 3) := by decide +kernel
theorem dX3_judge_6 : decode cX3_judge 6 = .ok (.iconst (-1), 1) := by decide +kernel
theorem dX3_judge_7 : decode cX3_judge 7 = .ok (.ireturn, 1) := by decide +kernel
theorem dX3_judge_8 : decode cX3_judge 8 = .ok (.iload_n 0, 1) := by decide +kernel
theorem dX3_judge_9 : decode cX3_judge 9 = .ok (.iload_n 1, 1) := by decide +kernel
theorem dX3_judge_10 : decode cX3_judge 10 = .ok (.if_icmp .ne 7, 3) := by decide +kernel
theorem dX3_judge_13 : decode cX3_judge 13 = .ok (.iconst 1, 1) := by decide +kernel
theorem dX3_judge_14 : decode cX3_judge 14 = .ok (.goto 4, 3) := by decide +kernel
theorem dX3_judge_17 : decode cX3_judge 17 = .ok (.iconst 0, 1) := by decide +kernel
theorem dX3_judge_18 : decode cX3_judge 18 = .ok (.ireturn, 1) := by decide +kernel
theorem dX3_bestPage_0 : decode cX3_bestPage 0 = .ok (.bipush (-4), 2) := by decide +kernel
theorem dX3_bestPage_2 : decode cX3_bestPage 2 = .ok (.istore_n 1, 1) := by decide +kernel
theorem dX3_bestPage_3 : decode cX3_bestPage 3 = .ok (.iconst 0, 1) := by decide +kernel
theorem dX3_bestPage_4 : decode cX3_bestPage 4 = .ok (.istore_n 2, 1) := by decide +kernel
theorem dX3_bestPage_5 : decode cX3_bestPage 5 = .ok (.iconst 0, 1) := by decide +kernel
theorem dX3_bestPage_6 : decode cX3_bestPage 6 = .ok (.istore_n 3, 1) := by decide +kernel
theorem dX3_bestPage_7 : decode cX3_bestPage 7 = .ok (.iload_n 3, 1) := by decide +kernel
theorem dX3_bestPage_8 : decode cX3_bestPage 8 = .ok (.aload_n 0, 1) := by decide +kernel
theorem dX3_bestPage_9 : decode cX3_bestPage 9 = .ok (.getfield 16, 3) := by decide +kernel
theorem dX3_bestPage_12 : decode cX3_bestPage 12 = .ok (.if_icmp .ge 37, 3) := by decide +kernel
theorem dX3_bestPage_15 : decode cX3_bestPage 15 = .ok (.aload_n 0, 1) := by decide +kernel
theorem dX3_bestPage_16 : decode cX3_bestPage 16 = .ok (.iload_n 3, 1) := by decide +kernel
theorem dX3_bestPage_17 : decode cX3_bestPage 17 = .ok (.iconst 1, 1) := by decide +kernel
theorem dX3_bestPage_18 : decode cX3_bestPage 18 = .ok (.invokevirtual 37, 3) := by decide +kernel
theorem dX3_bestPage_21 : decode cX3_bestPage 21 = .ok (.aload_n 0, 1) := by decide +kernel
theorem dX3_bestPage_22 : decode cX3_bestPage 22 = .ok (.iload_n 3, 1) := by decide +kernel
theorem dX3_bestPage_23 : decode cX3_bestPage 23 = .ok (.iconst 0, 1) := by decide +kernel
theorem dX3_bestPage_24 : decode cX3_bestPage 24 = .ok (.invokevirtual 37, 3) := by decide +kernel
theorem dX3_bestPage_27 : decode cX3_bestPage 27 = .ok (.invokestatic 40, 3) := by decide +kernel
theorem dX3_bestPage_30 : decode cX3_bestPage 30 = .ok (.istore 4, 2) := by decide +kernel
theorem dX3_bestPage_32 : decode cX3_bestPage 32 = .ok (.iload 4, 2) := by decide +kernel
theorem dX3_bestPage_34 : decode cX3_bestPage 34 = .ok (.iload_n 2, 1) := by decide +kernel
theorem dX3_bestPage_35 : decode cX3_bestPage 35 = .ok (.if_icmp .lt 8, 3) := by decide +kernel
theorem dX3_bestPage_38 : decode cX3_bestPage 38 = .ok (.iload_n 3, 1) := by decide +kernel
theorem dX3_bestPage_39 : decode cX3_bestPage 39 = .ok (.istore_n 1, 1) := by decide +kernel
theorem dX3_bestPage_40 : decode cX3_bestPage 40 = .ok (.iload 4, 2) := by decide +kernel
theorem dX3_bestPage_42 : decode cX3_bestPage 42 = .ok (.istore_n 2, 1) := by decide +kernel
theorem dX3_bestPage_43 : decode cX3_bestPage 43 = .ok (.iinc 3 1, 3) := by decide +kernel
theorem dX3_bestPage_46 : decode cX3_bestPage 46 = .ok (.goto (-39), 3) := by decide +kernel
theorem dX3_bestPage_49 : decode cX3_bestPage 49 = .ok (.iload_n 1, 1) := by decide +kernel
theorem dX3_bestPage_50 : decode cX3_bestPage 50 = .ok (.ireturn, 1) := by decide +kernel
theorem dX3_having_0 : decode cX3_having 0 = .ok (.iconst 0, 1) := by decide +kernel
theorem dX3_having_1 : decode cX3_having 1 = .ok (.istore_n 3, 1) := by decide +kernel
theorem dX3_having_2 : decode cX3_having 2 = .ok (.iconst 0, 1) := by decide +kernel
theorem dX3_having_3 : decode cX3_having 3 = .ok (.istore 4, 2) := by decide +kernel
theorem dX3_having_5 : decode cX3_having 5 = .ok (.iload 4, 2) := by decide +kernel
theorem dX3_having_7 : decode cX3_having 7 = .ok (.bipush 16, 2) := by decide +kernel
theorem dX3_having_9 : decode cX3_having 9 = .ok (.if_icmp .ge 25, 3) := by decide +kernel
theorem dX3_having_12 : decode cX3_having 12 = .ok (.aload_n 0, 1) := by decide +kernel
theorem dX3_having_13 : decode cX3_having 13 = .ok (.getfield 13, 3) := by decide +kernel
theorem dX3_having_16 : decode cX3_having 16 = .ok (.iload_n 1, 1) := by decide +kernel
theorem dX3_having_17 : decode cX3_having 17 = .ok (.aaload, 1) := by decide +kernel
theorem dX3_having_18 : decode cX3_having 18 = .ok (.iload 4, 2) := by decide +kernel
theorem dX3_having_20 : decode cX3_having 20 = .ok (.iaload, 1) := by decide +kernel
theorem dX3_having_21 : decode cX3_having 21 = .ok (.iload_n 2, 1) := by decide +kernel
theorem dX3_having_22 : decode cX3_having 22 = .ok (.if_icmp .ne 6, 3) := by decide +kernel
theorem dX3_having_25 : decode cX3_having 25 = .ok (.iinc 3 1, 3) := by decide +kernel
theorem dX3_having_28 : decode cX3_having 28 = .ok (.iinc 4 1, 3) := by decide +kernel
theorem dX3_having_31 : decode cX3_having 31 = .ok (.goto (-26), 3) := by decide +kernel
theorem dX3_having_34 : decode cX3_having 34 = .ok (.iload_n 3, 1) := by decide +kernel
theorem dX3_having_35 : decode cX3_having 35 = .ok (.ireturn, 1) := by decide +kernel
theorem dX4_init_0 : decode cX4_init 0 = .ok (.aload_n 0, 1) := by decide +kernel
theorem dX4_init_1 : decode cX4_init 1 = .ok (.invokespecial 3, 3) := by decide +kernel
theorem dX4_init_4 : decode cX4_init 4 = .ok (.return_, 1) := by decide +kernel
theorem dX4_begin_0 : decode cX4_begin 0 = .ok (.aload_n 0, 1) := by decide +kernel
theorem dX4_begin_1 : decode cX4_begin 1 = .ok (.iload_n 1, 1) := by decide +kernel
theorem dX4_begin_2 : decode cX4_begin 2 = .ok (.i2l, 1) := by decide +kernel
theorem dX4_begin_3 : decode cX4_begin 3 = .ok (.putfield 9, 3) := by decide +kernel
theorem dX4_begin_6 : decode cX4_begin 6 = .ok (.aload_n 0, 1) := by decide +kernel
theorem dX4_begin_7 : decode cX4_begin 7 = .ok (.iconst 0, 1) := by decide +kernel
theorem dX4_begin_8 : decode cX4_begin 8 = .ok (.putfield 15, 3) := by decide +kernel
theorem dX4_begin_11 : decode cX4_begin 11 = .ok (.return_, 1) := by decide +kernel
theorem dX4_next_0 : decode cX4_next 0 = .ok (.aload_n 0, 1) := by decide +kernel
theorem dX4_next_1 : decode cX4_next 1 = .ok (.getfield 9, 3) := by decide +kernel
theorem dX4_next_4 : decode cX4_next 4 = .ok (.lconst 0, 1) := by decide +kernel
theorem dX4_next_5 : decode cX4_next 5 = .ok (.lcmp, 1) := by decide +kernel
theorem dX4_next_6 : decode cX4_next 6 = .ok (.ifCond .ne 6, 3) := by decide +kernel
theorem dX4_next_9 : decode cX4_next 9 = .ok (.bipush (-2), 2) := by decide +kernel
theorem dX4_next_11 : decode cX4_next 11 = .ok (.ireturn, 1) := by decide +kernel
theorem dX4_next_12 : decode cX4_next 12 = .ok (.iload_n 1, 1) := by decide +kernel
theorem dX4_next_13 : decode cX4_next 13 = .ok (.aload_n 0, 1) := by decide +kernel
theorem dX4_next_14 : decode cX4_next 14 = .ok (.getfield 15, 3) := by decide +kernel
theorem dX4_next_17 : decode cX4_next 17 = .ok (.invokestatic 19, 3) := by decide +kernel
theorem dX4_next_20 : decode cX4_next 20 = .ok (.isub, 1) := by decide +kernel
theorem dX4_next_21 : decode cX4_next 21 = .ok (.istore_n 2, 1) := by decide +kernel
theorem dX4_next_22 : decode cX4_next 22 = .ok (.iload_n 2, 1) := by decide +kernel
theorem dX4_next_23 : decode cX4_next 23 = .ok (.ifCond .gt 6, 3) := by decide +kernel
theorem dX4_next_26 : decode cX4_next 26 = .ok (.bipush (-4), 2) := by decide +kernel
theorem dX4_next_28 : decode cX4_next 28 = .ok (.ireturn, 1) := by decide +kernel
theorem dX4_next_29 : decode cX4_next 29 = .ok (.aload_n 0, 1) := by decide +kernel
theorem dX4_next_30 : decode cX4_next 30 = .ok (.aload_n 0, 1) := by decide +kernel
theorem dX4_next_31 : decode cX4_next 31 = .ok (.getfield 9, 3) := by decide +kernel
theorem dX4_next_34 : decode cX4_next 34 = .ok (.ldc2_w 25, 3) := by decide +kernel
theorem dX4_next_37 : decode cX4_next 37 = .ok (.lmul, 1) := by decide +kernel
theorem dX4_next_38 : decode cX4_next 38 = .ok (.ldc2_w 27, 3) := by decide +kernel
theorem dX4_next_41 : decode cX4_next 41 = .ok (.lrem, 1) := by decide +kernel
theorem dX4_next_42 : decode cX4_next 42 = .ok (.putfield 9, 3) := by decide +kernel
theorem dX4_next_45 : decode cX4_next 45 = .ok (.aload_n 0, 1) := by decide +kernel
theorem dX4_next_46 : decode cX4_next 46 = .ok (.getfield 15, 3) := by decide +kernel
theorem dX4_next_49 : decode cX4_next 49 = .ok (.aload_n 0, 1) := by decide +kernel
theorem dX4_next_50 : decode cX4_next 50 = .ok (.getfield 9, 3) := by decide +kernel
theorem dX4_next_53 : decode cX4_next 53 = .ok (.iload_n 2, 1) := by decide +kernel
theorem dX4_next_54 : decode cX4_next 54 = .ok (.i2l, 1) := by decide +kernel
theorem dX4_next_55 : decode cX4_next 55 = .ok (.lrem, 1) := by decide +kernel
theorem dX4_next_56 : decode cX4_next 56 = .ok (.l2i, 1) := by decide +kernel
theorem dX4_next_57 : decode cX4_next 57 = .ok (.iload_n 1, 1) := by decide +kernel
theorem dX4_next_58 : decode cX4_next 58 = .ok (.invokestatic 29, 3) := by decide +kernel
theorem dX4_next_61 : decode cX4_next 61 = .ok (.istore_n 3, 1) := by decide +kernel
theorem dX4_next_62 : decode cX4_next 62 = .ok (.aload_n 0, 1) := by decide +kernel
theorem dX4_next_63 : decode cX4_next 63 = .ok (.dup, 1) := by decide +kernel
theorem dX4_next_64 : decode cX4_next 64 = .ok (.getfield 15, 3) := by decide +kernel
theorem dX4_next_67 : decode cX4_next 67 = .ok (.iconst 1, 1) := by decide +kernel
theorem dX4_next_68 : decode cX4_next 68 = .ok (.iload_n 3, 1) := by decide +kernel
theorem dX4_next_69 : decode cX4_next 69 = .ok (.ishl, 1) := by decide +kernel
theorem dX4_next_70 : decode cX4_next 70 = .ok (.ior, 1) := by decide +kernel
theorem dX4_next_71 : decode cX4_next 71 = .ok (.putfield 15, 3) := by decide +kernel
theorem dX4_next_74 : decode cX4_next 74 = .ok (.iload_n 3, 1) := by decide +kernel
theorem dX4_next_75 : decode cX4_next 75 = .ok (.ireturn, 1) := by decide +kernel
theorem dX5_init_0 : decode cX5_init 0 = .ok (.aload_n 0, 1) := by decide +kernel
theorem dX5_init_1 : decode cX5_init 1 = .ok (.invokespecial 3, 3) := by decide +kernel
theorem dX5_init_4 : decode cX5_init 4 = .ok (.aload_n 0, 1) := by decide +kernel
theorem dX5_init_5 : decode cX5_init 5 = .ok (.bipush 16, 2) := by decide +kernel
theorem dX5_init_7 : decode cX5_init 7 = .ok (.newarray .int, 2) := by decide +kernel
theorem dX5_init_9 : decode cX5_init 9 = .ok (.putfield 9, 3) := by decide +kernel
theorem dX5_init_12 : decode cX5_init 12 = .ok (.return_, 1) := by decide +kernel
theorem dX5_look_0 : decode cX5_look 0 = .ok (.aload_n 0, 1) := by decide +kernel
theorem dX5_look_1 : decode cX5_look 1 = .ok (.iconst 0, 1) := by decide +kernel
theorem dX5_look_2 : decode cX5_look 2 = .ok (.putfield 15, 3) := by decide +kernel
theorem dX5_look_5 : decode cX5_look 5 = .ok (.iconst 0, 1) := by decide +kernel
theorem dX5_look_6 : decode cX5_look 6 = .ok (.istore_n 3, 1) := by decide +kernel
theorem dX5_look_7 : decode cX5_look 7 = .ok (.iload_n 3, 1) := by decide +kernel
theorem dX5_look_8 : decode cX5_look 8 = .ok (.iload_n 2, 1) := by decide +kernel
theorem dX5_look_9 : decode cX5_look 9 = .ok (.if_icmp .ge 30, 3) := by decide +kernel
theorem dX5_look_12 : decode cX5_look 12 = .ok (.aload_n 1, 1) := by decide +kernel
theorem dX5_look_13 : decode cX5_look 13 = .ok (.iload_n 3, 1) := by decide +kernel
theorem dX5_look_14 : decode cX5_look 14 = .ok (.aaload, 1) := by decide +kernel
theorem dX5_look_15 : decode cX5_look 15 = .ok (.invokevirtual 19, 3) := by decide +kernel
theorem dX5_look_18 : decode cX5_look 18 = .ok (.bipush (-4), 2) := by decide +kernel
theorem dX5_look_20 : decode cX5_look 20 = .ok (.if_icmp .eq 13, 3) := by decide +kernel
theorem dX5_look_23 : decode cX5_look 23 = .ok (.aload_n 0, 1) := by decide +kernel
theorem dX5_look_24 : decode cX5_look 24 = .ok (.aload_n 1, 1) := by decide +kernel
theorem dX5_look_25 : decode cX5_look 25 = .ok (.iload_n 3, 1) := by decide +kernel
theorem dX5_look_26 : decode cX5_look 26 = .ok (.aaload, 1) := by decide +kernel
theorem dX5_look_27 : decode cX5_look 27 = .ok (.invokevirtual 19, 3) := by decide +kernel
theorem dX5_look_30 : decode cX5_look 30 = .ok (.invokevirtual 25, 3) := by decide +kernel
theorem dX5_look_33 : decode cX5_look 33 = .ok (.iinc 3 1, 3) := by decide +kernel
theorem dX5_look_36 : decode cX5_look 36 = .ok (.goto (-29), 3) := by decide +kernel
theorem dX5_look_39 : decode cX5_look 39 = .ok (.aload_n 0, 1) := by decide +kernel
theorem dX5_look_40 : decode cX5_look 40 = .ok (.aload_n 0, 1) := by decide +kernel
theorem dX5_look_41 : decode cX5_look 41 = .ok (.invokevirtual 29, 3) := by decide +kernel
theorem dX5_look_44 : decode cX5_look 44 = .ok (.putfield 32, 3) := by decide +kernel
theorem dX5_look_47 : decode cX5_look 47 = .ok (.aload_n 0, 1) := by decide +kernel
theorem dX5_look_48 : decode cX5_look 48 = .ok (.iconst 0, 1) := by decide +kernel
theorem dX5_look_49 : decode cX5_look 49 = .ok (.putfield 15, 3) := by decide +kernel
theorem dX5_look_52 : decode cX5_look 52 = .ok (.iconst 0, 1) := by decide +kernel
theorem dX5_look_53 : decode cX5_look 53 = .ok (.istore_n 3, 1) := by decide +kernel
theorem dX5_look_54 : decode cX5_look 54 = .ok (.iload_n 3, 1) := by decide +kernel
theorem dX5_look_55 : decode cX5_look 55 = .ok (.iload_n 2, 1) := by decide +kernel
theorem dX5_look_56 : decode cX5_look 56 = .ok (.if_icmp .ge 31, 3) := by decide +kernel
theorem dX5_look_59 : decode cX5_look 59 = .ok (.aload_n 1, 1) := by decide +kernel
theorem dX5_look_60 : decode cX5_look 60 = .ok (.iload_n 3, 1) := by decide +kernel
theorem dX5_look_61 : decode cX5_look 61 = .ok (.aaload, 1) := by decide +kernel
theorem dX5_look_62 : decode cX5_look 62 = .ok (.invokevirtual 19, 3) := by decide +kernel
theorem dX5_look_65 : decode cX5_look 65 = .ok (.bipush (-4), 2) := by decide +kernel
theorem dX5_look_67 : decode cX5_look 67 = .ok (.if_icmp .eq 14, 3) := by decide +kernel
theorem dX5_look_70 : decode cX5_look 70 = .ok (.aload_n 0, 1) := by decide +kernel
theorem dX5_look_71 : decode cX5_look 71 = .ok (.aload_n 0, 1) := by decide +kernel
theorem dX5_look_72 : decode cX5_look 72 = .ok (.aload_n 1, 1) := by decide +kernel
theorem dX5_look_73 : decode cX5_look 73 = .ok (.iload_n 3, 1) := by decide +kernel
theorem dX5_look_74 : decode cX5_look 74 = .ok (.aaload, 1) := by decide +kernel
theorem dX5_look_75 : decode cX5_look 75 = .ok (.invokevirtual 35, 3) := by decide +kernel
theorem dX5_look_78 : decode cX5_look 78 = .ok (.invokevirtual 25, 3) := by decide +kernel
theorem dX5_look_81 : decode cX5_look 81 = .ok (.iinc 3 1, 3) := by decide +kernel
theorem dX5_look_84 : decode cX5_look 84 = .ok (.goto (-30), 3) := by decide +kernel
theorem dX5_look_87 : decode cX5_look 87 = .ok (.iconst 3, 1) := by decide +kernel
theorem dX5_look_88 : decode cX5_look 88 = .ok (.aload_n 0, 1) := by decide +kernel
theorem dX5_look_89 : decode cX5_look 89 = .ok (.invokevirtual 29, 3) := by decide +kernel
theorem dX5_look_92 : decode cX5_look 92 = .ok (.imul, 1) := by decide +kernel
theorem dX5_look_93 : decode cX5_look 93 = .ok (.istore_n 3, 1) := by decide +kernel
theorem dX5_look_94 : decode cX5_look 94 = .ok (.aload_n 0, 1) := by decide +kernel
theorem dX5_look_95 : decode cX5_look 95 = .ok (.iconst 0, 1) := by decide +kernel
theorem dX5_look_96 : decode cX5_look 96 = .ok (.putfield 39, 3) := by decide +kernel
theorem dX5_look_99 : decode cX5_look 99 = .ok (.iconst 0, 1) := by decide +kernel
theorem dX5_look_100 : decode cX5_look 100 = .ok (.istore 4, 2) := by decide +kernel
theorem dX5_look_102 : decode cX5_look 102 = .ok (.iload 4, 2) := by decide +kernel
theorem dX5_look_104 : decode cX5_look 104 = .ok (.iload_n 2, 1) := by decide +kernel
theorem dX5_look_105 : decode cX5_look 105 = .ok (.if_icmp .ge 46, 3) := by decide +kernel
theorem dX5_look_108 : decode cX5_look 108 = .ok (.aload_n 1, 1) := by decide +kernel
theorem dX5_look_109 : decode cX5_look 109 = .ok (.iload 4, 2) := by decide +kernel
theorem dX5_look_111 : decode cX5_look 111 = .ok (.aaload, 1) := by decide +kernel
theorem dX5_look_112 : decode cX5_look 112 = .ok (.invokevirtual 19, 3) := by decide +kernel
theorem dX5_look_115 : decode cX5_look 115 = .ok (.bipush (-4), 2) := by decide +kernel
theorem dX5_look_117 : decode cX5_look 117 = .ok (.if_icmp .eq 28, 3) := by decide +kernel
theorem dX5_look_120 : decode cX5_look 120 = .ok (.aload_n 0, 1) := by decide +kernel
theorem dX5_look_121 : decode cX5_look 121 = .ok (.aload_n 1, 1) := by decide +kernel
theorem dX5_look_122 : decode cX5_look 122 = .ok (.iload 4, 2) := by decide +kernel
theorem dX5_look_124 : decode cX5_look 124 = .ok (.aaload, 1) := by decide +kernel
theorem dX5_look_125 : decode cX5_look 125 = .ok (.invokevirtual 35, 3) := by decide +kernel
theorem dX5_look_128 : decode cX5_look 128 = .ok (.iload_n 3, 1) := by decide +kernel
theorem dX5_look_129 : decode cX5_look 129 = .ok (.if_icmp .le 16, 3) := by decide +kernel
theorem dX5_look_132 : decode cX5_look 132 = .ok (.aload_n 0, 1) := by decide +kernel
theorem dX5_look_133 : decode cX5_look 133 = .ok (.dup, 1) := by decide +kernel
theorem dX5_look_134 : decode cX5_look 134 = .ok (.getfield 39, 3) := by decide +kernel
theorem dX5_look_137 : decode cX5_look 137 = .ok (.iconst 1, 1) := by decide +kernel
theorem dX5_look_138 : decode cX5_look 138 = .ok (.iload 4, 2) := by decide +kernel
theorem dX5_look_140 : decode cX5_look 140 = .ok (.ishl, 1) := by decide +kernel
theorem dX5_look_141 : decode cX5_look 141 = .ok (.ior, 1) := by decide +kernel
theorem dX5_look_142 : decode cX5_look 142 = .ok (.putfield 39, 3) := by decide +kernel
theorem dX5_look_145 : decode cX5_look 145 = .ok (.iinc 4 1, 3) := by decide +kernel
theorem dX5_look_148 : decode cX5_look 148 = .ok (.goto (-46), 3) := by decide +kernel
theorem dX5_look_151 : decode cX5_look 151 = .ok (.return_, 1) := by decide +kernel
theorem dX5_off_0 : decode cX5_off 0 = .ok (.aload_n 1, 1) := by decide +kernel
theorem dX5_off_1 : decode cX5_off 1 = .ok (.invokevirtual 19, 3) := by decide +kernel
theorem dX5_off_4 : decode cX5_off 4 = .ok (.aload_n 0, 1) := by decide +kernel
theorem dX5_off_5 : decode cX5_off 5 = .ok (.getfield 32, 3) := by decide +kernel
theorem dX5_off_8 : decode cX5_off 8 = .ok (.isub, 1) := by decide +kernel
theorem dX5_off_9 : decode cX5_off 9 = .ok (.invokestatic 42, 3) := by decide +kernel
theorem dX5_off_12 : decode cX5_off 12 = .ok (.ireturn, 1) := by decide +kernel
theorem dX5_lesserMiddle_0 : decode cX5_lesserMiddle 0 = .ok (.aload_n 0, 1) := by decide +kernel
theorem dX5_lesserMiddle_1 : decode cX5_lesserMiddle 1 = .ok (.getfield 15, 3) := by decide +kernel
theorem dX5_lesserMiddle_4 : decode cX5_lesserMiddle 4 = .ok (.ifCond .le 19, 3) := by decide +kernel
theorem dX5_lesserMiddle_7 : decode cX5_lesserMiddle 7 = .ok (.aload_n 0, 1) := by decide +kernel
theorem dX5_lesserMiddle_8 : decode cX5_lesserMiddle 8 = .ok (.getfield 9, 3) := by decide +kernel
theorem dX5_lesserMiddle_11 : decode cX5_lesserMiddle 11 = .ok (.aload_n 0, 1) := by decide +kernel
theorem dX5_lesserMiddle_12 : decode cX5_lesserMiddle 12 = .ok (.getfield 15, 3) := by decide +kernel
theorem dX5_lesserMiddle_15 : decode cX5_lesserMiddle 15 = .ok (.iconst 1, 1) := by decide +kernel
theorem dX5_lesserMiddle_16 : decode cX5_lesserMiddle 16 = .ok (.isub, 1) := by decide +kernel
theorem dX5_lesserMiddle_17 : decode cX5_lesserMiddle 17 = .ok (.iconst 2, 1) := by decide +kernel
theorem dX5_lesserMiddle_18 : decode cX5_lesserMiddle 18 = .ok (.idiv, 1) := by decide +kernel
theorem dX5_lesserMiddle_19 : decode cX5_lesserMiddle 19 = .ok (.iaload, 1) := by decide +kernel
theorem dX5_lesserMiddle_20 : decode cX5_lesserMiddle 20 = .ok (.goto 4, 3) := by decide +kernel
theorem dX5_lesserMiddle_23 : decode cX5_lesserMiddle 23 = .ok (.iconst 0, 1) := by decide +kernel
theorem dX5_lesserMiddle_24 : decode cX5_lesserMiddle 24 = .ok (.ireturn, 1) := by decide +kernel
theorem dX5_putInOrder_0 : decode cX5_putInOrder 0 = .ok (.aload_n 0, 1) := by decide +kernel
theorem dX5_putInOrder_1 : decode cX5_putInOrder 1 = .ok (.getfield 15, 3) := by decide +kernel
theorem dX5_putInOrder_4 : decode cX5_putInOrder 4 = .ok (.bipush 16, 2) := by decide +kernel
theorem dX5_putInOrder_6 : decode cX5_putInOrder 6 = .ok (.if_icmp .lt 4, 3) := by decide +kernel
theorem dX5_putInOrder_9 : decode cX5_putInOrder 9 = .ok (.return_, 1) := by decide +kernel
theorem dX5_putInOrder_10 : decode cX5_putInOrder 10 = .ok (.aload_n 0, 1) := by decide +kernel
theorem dX5_putInOrder_11 : decode cX5_putInOrder 11 = .ok (.getfield 15, 3) := by decide +kernel
theorem dX5_putInOrder_14 : decode cX5_putInOrder 14 = .ok (.istore_n 2, 1) := by decide +kernel
theorem dX5_putInOrder_15 : decode cX5_putInOrder 15 = .ok (.iload_n 2, 1) := by decide +kernel
theorem dX5_putInOrder_16 : decode cX5_putInOrder 16 = .ok (.ifCond .le 35, 3) := by decide +kernel
theorem dX5_putInOrder_19 : decode cX5_putInOrder 19 = .ok (.aload_n 0, 1) := by decide +kernel
theorem dX5_putInOrder_20 : decode cX5_putInOrder 20 = .ok (.getfield 9, 3) := by decide +kernel
theorem dX5_putInOrder_23 : decode cX5_putInOrder 23 = .ok (.iload_n 2, 1) := by decide +kernel
theorem dX5_putInOrder_24 : decode cX5_putInOrder 24 = .ok (.iconst 1, 1) := by decide +kernel
theorem dX5_putInOrder_25 : decode cX5_putInOrder 25 = .ok (.isub, 1) := by decide +kernel
theorem dX5_putInOrder_26 : decode cX5_putInOrder 26 = .ok (.iaload, 1) := by decide +kernel
theorem dX5_putInOrder_27 : decode cX5_putInOrder 27 = .ok (.iload_n 1, 1) := by decide +kernel
theorem dX5_putInOrder_28 : decode cX5_putInOrder 28 = .ok (.if_icmp .le 23, 3) := by decide +kernel
theorem dX5_putInOrder_31 : decode cX5_putInOrder 31 = .ok (.aload_n 0, 1) := by decide +kernel
theorem dX5_putInOrder_32 : decode cX5_putInOrder 32 = .ok (.getfield 9, 3) := by decide +kernel
theorem dX5_putInOrder_35 : decode cX5_putInOrder 35 = .ok (.iload_n 2, 1) := by decide +kernel
theorem dX5_putInOrder_36 : decode cX5_putInOrder 36 = .ok (.aload_n 0, 1) := by decide +kernel
theorem dX5_putInOrder_37 : decode cX5_putInOrder 37 = .ok (.getfield 9, 3) := by decide +kernel
theorem dX5_putInOrder_40 : decode cX5_putInOrder 40 = .ok (.iload_n 2, 1) := by decide +kernel
theorem dX5_putInOrder_41 : decode cX5_putInOrder 41 = .ok (.iconst 1, 1) := by decide +kernel
theorem dX5_putInOrder_42 : decode cX5_putInOrder 42 = .ok (.isub, 1) := by decide +kernel
theorem dX5_putInOrder_43 : decode cX5_putInOrder 43 = .ok (.iaload, 1) := by decide +kernel
theorem dX5_putInOrder_44 : decode cX5_putInOrder 44 = .ok (.iastore, 1) := by decide +kernel
theorem dX5_putInOrder_45 : decode cX5_putInOrder 45 = .ok (.iinc 2 (-1), 3) := by decide +kernel
theorem dX5_putInOrder_48 : decode cX5_putInOrder 48 = .ok (.goto (-33), 3) := by decide +kernel
theorem dX5_putInOrder_51 : decode cX5_putInOrder 51 = .ok (.aload_n 0, 1) := by decide +kernel
theorem dX5_putInOrder_52 : decode cX5_putInOrder 52 = .ok (.getfield 9, 3) := by decide +kernel
theorem dX5_putInOrder_55 : decode cX5_putInOrder 55 = .ok (.iload_n 2, 1) := by decide +kernel
theorem dX5_putInOrder_56 : decode cX5_putInOrder 56 = .ok (.iload_n 1, 1) := by decide +kernel
theorem dX5_putInOrder_57 : decode cX5_putInOrder 57 = .ok (.iastore, 1) := by decide +kernel
theorem dX5_putInOrder_58 : decode cX5_putInOrder 58 = .ok (.aload_n 0, 1) := by decide +kernel
theorem dX5_putInOrder_59 : decode cX5_putInOrder 59 = .ok (.dup, 1) := by decide +kernel
theorem dX5_putInOrder_60 : decode cX5_putInOrder 60 = .ok (.getfield 15, 3) := by decide +kernel
theorem dX5_putInOrder_63 : decode cX5_putInOrder 63 = .ok (.iconst 1, 1) := by decide +kernel
theorem dX5_putInOrder_64 : decode cX5_putInOrder 64 = .ok (.iadd, 1) := by decide +kernel
theorem dX5_putInOrder_65 : decode cX5_putInOrder 65 = .ok (.putfield 15, 3) := by decide +kernel
theorem dX5_putInOrder_68 : decode cX5_putInOrder 68 = .ok (.return_, 1) := by decide +kernel
theorem dX6_init_0 : decode cX6_init 0 = .ok (.aload_n 0, 1) := by decide +kernel
theorem dX6_init_1 : decode cX6_init 1 = .ok (.invokespecial 5, 3) := by decide +kernel
theorem dX6_init_4 : decode cX6_init 4 = .ok (.aload_n 0, 1) := by decide +kernel
theorem dX6_init_5 : decode cX6_init 5 = .ok (.sipush 320, 3) := by decide +kernel
theorem dX6_init_8 : decode cX6_init 8 = .ok (.newarray .int, 2) := by decide +kernel
theorem dX6_init_10 : decode cX6_init 10 = .ok (.putfield 13, 3) := by decide +kernel
theorem dX6_init_13 : decode cX6_init 13 = .ok (.aload_n 0, 1) := by decide +kernel
theorem dX6_init_14 : decode cX6_init 14 = .ok (.sipush 320, 3) := by decide +kernel
theorem dX6_init_17 : decode cX6_init 17 = .ok (.newarray .int, 2) := by decide +kernel
theorem dX6_init_19 : decode cX6_init 19 = .ok (.putfield 17, 3) := by decide +kernel
theorem dX6_init_22 : decode cX6_init 22 = .ok (.aload_n 0, 1) := by decide +kernel
theorem dX6_init_23 : decode cX6_init 23 = .ok (.sipush 320, 3) := by decide +kernel
theorem dX6_init_26 : decode cX6_init 26 = .ok (.newarray .int, 2) := by decide +kernel
theorem dX6_init_28 : decode cX6_init 28 = .ok (.putfield 20, 3) := by decide +kernel
theorem dX6_init_31 : decode cX6_init 31 = .ok (.aload_n 0, 1) := by decide +kernel
theorem dX6_init_32 : decode cX6_init 32 = .ok (.sipush 320, 3) := by decide +kernel
theorem dX6_init_35 : decode cX6_init 35 = .ok (.newarray .int, 2) := by decide +kernel
theorem dX6_init_37 : decode cX6_init 37 = .ok (.putfield 23, 3) := by decide +kernel
theorem dX6_init_40 : decode cX6_init 40 = .ok (.aload_n 0, 1) := by decide +kernel
theorem dX6_init_41 : decode cX6_init 41 = .ok (.sipush 320, 3) := by decide +kernel
theorem dX6_init_44 : decode cX6_init 44 = .ok (.newarray .int, 2) := by decide +kernel
theorem dX6_init_46 : decode cX6_init 46 = .ok (.putfield 26, 3) := by decide +kernel
theorem dX6_init_49 : decode cX6_init 49 = .ok (.aload_n 0, 1) := by decide +kernel
theorem dX6_init_50 : decode cX6_init 50 = .ok (.sipush 320, 3) := by decide +kernel
theorem dX6_init_53 : decode cX6_init 53 = .ok (.newarray .int, 2) := by decide +kernel
theorem dX6_init_55 : decode cX6_init 55 = .ok (.putfield 29, 3) := by decide +kernel
theorem dX6_init_58 : decode cX6_init 58 = .ok (.return_, 1) := by decide +kernel
theorem dX6_put_0 : decode cX6_put 0 = .ok (.aload_n 0, 1) := by decide +kernel
theorem dX6_put_1 : decode cX6_put 1 = .ok (.getfield 32, 3) := by decide +kernel
theorem dX6_put_4 : decode cX6_put 4 = .ok (.sipush 320, 3) := by decide +kernel
theorem dX6_put_7 : decode cX6_put 7 = .ok (.if_icmp .lt 4, 3) := by decide +kernel
theorem dX6_put_10 : decode cX6_put 10 = .ok (.return_, 1) := by decide +kernel
theorem dX6_put_11 : decode cX6_put 11 = .ok (.aload_n 0, 1) := by decide +kernel
theorem dX6_put_12 : decode cX6_put 12 = .ok (.getfield 13, 3) := by decide +kernel
theorem dX6_put_15 : decode cX6_put 15 = .ok (.aload_n 0, 1) := by decide +kernel
theorem dX6_put_16 : decode cX6_put 16 = .ok (.getfield 32, 3) := by decide +kernel
theorem dX6_put_19 : decode cX6_put 19 = .ok (.iload_n 1, 1) := by decide +kernel
theorem dX6_put_20 : decode cX6_put 20 = .ok (.iastore, 1) := by decide +kernel
theorem dX6_put_21 : decode cX6_put 21 = .ok (.aload_n 0, 1) := by decide +kernel
theorem dX6_put_22 : decode cX6_put 22 = .ok (.getfield 17, 3) := by decide +kernel
theorem dX6_put_25 : decode cX6_put 25 = .ok (.aload_n 0, 1) := by decide +kernel
theorem dX6_put_26 : decode cX6_put 26 = .ok (.getfield 32, 3) := by decide +kernel
theorem dX6_put_29 : decode cX6_put 29 = .ok (.iload_n 2, 1) := by decide +kernel
theorem dX6_put_30 : decode cX6_put 30 = .ok (.iastore, 1) := by decide +kernel
theorem dX6_put_31 : decode cX6_put 31 = .ok (.aload_n 0, 1) := by decide +kernel
theorem dX6_put_32 : decode cX6_put 32 = .ok (.getfield 20, 3) := by decide +kernel
theorem dX6_put_35 : decode cX6_put 35 = .ok (.aload_n 0, 1) := by decide +kernel
theorem dX6_put_36 : decode cX6_put 36 = .ok (.getfield 32, 3) := by decide +kernel
theorem dX6_put_39 : decode cX6_put 39 = .ok (.iload_n 3, 1) := by decide +kernel
theorem dX6_put_40 : decode cX6_put 40 = .ok (.iastore, 1) := by decide +kernel
theorem dX6_put_41 : decode cX6_put 41 = .ok (.aload_n 0, 1) := by decide +kernel
theorem dX6_put_42 : decode cX6_put 42 = .ok (.getfield 23, 3) := by decide +kernel
theorem dX6_put_45 : decode cX6_put 45 = .ok (.aload_n 0, 1) := by decide +kernel
theorem dX6_put_46 : decode cX6_put 46 = .ok (.getfield 32, 3) := by decide +kernel
theorem dX6_put_49 : decode cX6_put 49 = .ok (.aload 4, 2) := by decide +kernel
theorem dX6_put_51 : decode cX6_put 51 = .ok (.getfield 36, 3) := by decide +kernel
theorem dX6_put_54 : decode cX6_put 54 = .ok (.iastore, 1) := by decide +kernel
theorem dX6_put_55 : decode cX6_put 55 = .ok (.aload_n 0, 1) := by decide +kernel
theorem dX6_put_56 : decode cX6_put 56 = .ok (.getfield 26, 3) := by decide +kernel
theorem dX6_put_59 : decode cX6_put 59 = .ok (.aload_n 0, 1) := by decide +kernel
theorem dX6_put_60 : decode cX6_put 60 = .ok (.getfield 32, 3) := by decide +kernel
theorem dX6_put_63 : decode cX6_put 63 = .ok (.aload 4, 2) := by decide +kernel
theorem dX6_put_65 : decode cX6_put 65 = .ok (.getfield 41, 3) := by decide +kernel
theorem dX6_put_68 : decode cX6_put 68 = .ok (.iastore, 1) := by decide +kernel
theorem dX6_put_69 : decode cX6_put 69 = .ok (.aload_n 0, 1) := by decide +kernel
theorem dX6_put_70 : decode cX6_put 70 = .ok (.getfield 29, 3) := by decide +kernel
theorem dX6_put_73 : decode cX6_put 73 = .ok (.aload_n 0, 1) := by decide +kernel
theorem dX6_put_74 : decode cX6_put 74 = .ok (.getfield 32, 3) := by decide +kernel
theorem dX6_put_77 : decode cX6_put 77 = .ok (.aload 4, 2) := by decide +kernel
theorem dX6_put_79 : decode cX6_put 79 = .ok (.getfield 44, 3) := by decide +kernel
theorem dX6_put_82 : decode cX6_put 82 = .ok (.iastore, 1) := by decide +kernel
theorem dX6_put_83 : decode cX6_put 83 = .ok (.aload_n 0, 1) := by decide +kernel
theorem dX6_put_84 : decode cX6_put 84 = .ok (.dup, 1) := by decide +kernel
theorem dX6_put_85 : decode cX6_put 85 = .ok (.getfield 32, 3) := by decide +kernel
theorem dX6_put_88 : decode cX6_put 88 = .ok (.iconst 1, 1) := by decide +kernel
theorem dX6_put_89 : decode cX6_put 89 = .ok (.iadd, 1) := by decide +kernel
theorem dX6_put_90 : decode cX6_put 90 = .ok (.putfield 32, 3) := by decide +kernel
theorem dX6_put_93 : decode cX6_put 93 = .ok (.return_, 1) := by decide +kernel
theorem dX6_bringWhatIsDue_0 : decode cX6_bringWhatIsDue 0 = .ok (.iconst 0, 1) := by decide +kernel
theorem dX6_bringWhatIsDue_1 : decode cX6_bringWhatIsDue 1 = .ok (.istore 4, 2) := by decide +kernel
theorem dX6_bringWhatIsDue_3 : decode cX6_bringWhatIsDue 3 = .ok (.iconst 0, 1) := by decide +kernel
theorem dX6_bringWhatIsDue_4 : decode cX6_bringWhatIsDue 4 = .ok (.istore 5, 2) := by decide +kernel
theorem dX6_bringWhatIsDue_6 : decode cX6_bringWhatIsDue 6 = .ok (.iload 5, 2) := by decide +kernel
theorem dX6_bringWhatIsDue_8 : decode cX6_bringWhatIsDue 8 = .ok (.aload_n 0, 1) := by decide +kernel
theorem dX6_bringWhatIsDue_9 : decode cX6_bringWhatIsDue 9 = .ok (.getfield 32, 3) := by decide +kernel
theorem dX6_bringWhatIsDue_12 : decode cX6_bringWhatIsDue 12 = .ok (.if_icmp .ge 91, 3) := by decide +kernel
theorem dX6_bringWhatIsDue_15 : decode cX6_bringWhatIsDue 15 = .ok (.aload_n 0, 1) := by decide +kernel
theorem dX6_bringWhatIsDue_16 : decode cX6_bringWhatIsDue 16 = .ok (.getfield 13, 3) := by decide +kernel
theorem dX6_bringWhatIsDue_19 : decode cX6_bringWhatIsDue 19 = .ok (.iload 5, 2) := by decide +kernel
theorem dX6_bringWhatIsDue_21 : decode cX6_bringWhatIsDue 21 = .ok (.iaload, 1) := by decide +kernel
theorem dX6_bringWhatIsDue_22 : decode cX6_bringWhatIsDue 22 = .ok (.iload_n 1, 1) := by decide +kernel
theorem dX6_bringWhatIsDue_23 : decode cX6_bringWhatIsDue 23 = .ok (.if_icmp .ne 63, 3) := by decide +kernel
theorem dX6_bringWhatIsDue_26 : decode cX6_bringWhatIsDue 26 = .ok (.aload_n 3, 1) := by decide +kernel
theorem dX6_bringWhatIsDue_27 : decode cX6_bringWhatIsDue 27 = .ok (.aload_n 0, 1) := by decide +kernel
theorem dX6_bringWhatIsDue_28 : decode cX6_bringWhatIsDue 28 = .ok (.getfield 17, 3) := by decide +kernel
theorem dX6_bringWhatIsDue_31 : decode cX6_bringWhatIsDue 31 = .ok (.iload 5, 2) := by decide +kernel
theorem dX6_bringWhatIsDue_33 : decode cX6_bringWhatIsDue 33 = .ok (.iaload, 1) := by decide +kernel
theorem dX6_bringWhatIsDue_34 : decode cX6_bringWhatIsDue 34 = .ok (.aaload, 1) := by decide +kernel
theorem dX6_bringWhatIsDue_35 : decode cX6_bringWhatIsDue 35 = .ok (.getfield 46, 3) := by decide +kernel
theorem dX6_bringWhatIsDue_38 : decode cX6_bringWhatIsDue 38 = .ok (.aload_n 0, 1) := by decide +kernel
theorem dX6_bringWhatIsDue_39 : decode cX6_bringWhatIsDue 39 = .ok (.getfield 20, 3) := by decide +kernel
theorem dX6_bringWhatIsDue_42 : decode cX6_bringWhatIsDue 42 = .ok (.iload 5, 2) := by decide +kernel
theorem dX6_bringWhatIsDue_44 : decode cX6_bringWhatIsDue 44 = .ok (.iaload, 1) := by decide +kernel
theorem dX6_bringWhatIsDue_45 : decode cX6_bringWhatIsDue 45 = .ok (.aaload, 1) := by decide +kernel
theorem dX6_bringWhatIsDue_46 : decode cX6_bringWhatIsDue 46 = .ok (.astore 6, 2) := by decide +kernel
theorem dX6_bringWhatIsDue_48 : decode cX6_bringWhatIsDue 48 = .ok (.aload 6, 2) := by decide +kernel
theorem dX6_bringWhatIsDue_50 : decode cX6_bringWhatIsDue 50 = .ok (.aload_n 0, 1) := by decide +kernel
theorem dX6_bringWhatIsDue_51 : decode cX6_bringWhatIsDue 51 = .ok (.getfield 23, 3) := by decide +kernel
theorem dX6_bringWhatIsDue_54 : decode cX6_bringWhatIsDue 54 = .ok (.iload 5, 2) := by decide +kernel
theorem dX6_bringWhatIsDue_56 : decode cX6_bringWhatIsDue 56 = .ok (.iaload, 1) := by decide +kernel
theorem dX6_bringWhatIsDue_57 : decode cX6_bringWhatIsDue 57 = .ok (.aload_n 0, 1) := by decide +kernel
theorem dX6_bringWhatIsDue_58 : decode cX6_bringWhatIsDue 58 = .ok (.getfield 26, 3) := by decide +kernel
theorem dX6_bringWhatIsDue_61 : decode cX6_bringWhatIsDue 61 = .ok (.iload 5, 2) := by decide +kernel
theorem dX6_bringWhatIsDue_63 : decode cX6_bringWhatIsDue 63 = .ok (.iaload, 1) := by decide +kernel
theorem dX6_bringWhatIsDue_64 : decode cX6_bringWhatIsDue 64 = .ok (.aload_n 0, 1) := by decide +kernel
theorem dX6_bringWhatIsDue_65 : decode cX6_bringWhatIsDue 65 = .ok (.getfield 29, 3) := by decide +kernel
theorem dX6_bringWhatIsDue_68 : decode cX6_bringWhatIsDue 68 = .ok (.iload 5, 2) := by decide +kernel
theorem dX6_bringWhatIsDue_70 : decode cX6_bringWhatIsDue 70 = .ok (.iaload, 1) := by decide +kernel
theorem dX6_bringWhatIsDue_71 : decode cX6_bringWhatIsDue 71 = .ok (.iload_n 2, 1) := by decide +kernel
theorem dX6_bringWhatIsDue_72 : decode cX6_bringWhatIsDue 72 = .ok (.if_icmp .ge 7, 3) := by decide +kernel
theorem dX6_bringWhatIsDue_75 : decode cX6_bringWhatIsDue 75 = .ok (.iconst 1, 1) := by decide +kernel
theorem dX6_bringWhatIsDue_76 : decode cX6_bringWhatIsDue 76 = .ok (.goto 4, 3) := by decide +kernel
theorem dX6_bringWhatIsDue_79 : decode cX6_bringWhatIsDue 79 = .ok (.iconst 0, 1) := by decide +kernel
theorem dX6_bringWhatIsDue_80 : decode cX6_bringWhatIsDue 80 = .ok (.invokevirtual 50, 3) := by decide +kernel
theorem dX6_bringWhatIsDue_83 : decode cX6_bringWhatIsDue 83 = .ok (.goto 14, 3) := by decide +kernel
theorem dX6_bringWhatIsDue_86 : decode cX6_bringWhatIsDue 86 = .ok (.aload_n 0, 1) := by decide +kernel
theorem dX6_bringWhatIsDue_87 : decode cX6_bringWhatIsDue 87 = .ok (.iload 5, 2) := by decide +kernel
theorem dX6_bringWhatIsDue_89 : decode cX6_bringWhatIsDue 89 = .ok (.iload 4, 2) := by decide +kernel
theorem dX6_bringWhatIsDue_91 : decode cX6_bringWhatIsDue 91 = .ok (.invokevirtual 56, 3) := by decide +kernel
theorem dX6_bringWhatIsDue_94 : decode cX6_bringWhatIsDue 94 = .ok (.iinc 4 1, 3) := by decide +kernel
theorem dX6_bringWhatIsDue_97 : decode cX6_bringWhatIsDue 97 = .ok (.iinc 5 1, 3) := by decide +kernel
theorem dX6_bringWhatIsDue_100 : decode cX6_bringWhatIsDue 100 = .ok (.goto (-94), 3) := by decide +kernel
theorem dX6_bringWhatIsDue_103 : decode cX6_bringWhatIsDue 103 = .ok (.aload_n 0, 1) := by decide +kernel
theorem dX6_bringWhatIsDue_104 : decode cX6_bringWhatIsDue 104 = .ok (.iload 4, 2) := by decide +kernel
theorem dX6_bringWhatIsDue_106 : decode cX6_bringWhatIsDue 106 = .ok (.putfield 32, 3) := by decide +kernel
theorem dX6_bringWhatIsDue_109 : decode cX6_bringWhatIsDue 109 = .ok (.return_, 1) := by decide +kernel
theorem dX6_move_0 : decode cX6_move 0 = .ok (.aload_n 0, 1) := by decide +kernel
theorem dX6_move_1 : decode cX6_move 1 = .ok (.getfield 13, 3) := by decide +kernel
theorem dX6_move_4 : decode cX6_move 4 = .ok (.iload_n 2, 1) := by decide +kernel
theorem dX6_move_5 : decode cX6_move 5 = .ok (.aload_n 0, 1) := by decide +kernel
theorem dX6_move_6 : decode cX6_move 6 = .ok (.getfield 13, 3) := by decide +kernel
theorem dX6_move_9 : decode cX6_move 9 = .ok (.iload_n 1, 1) := by decide +kernel
theorem dX6_move_10 : decode cX6_move 10 = .ok (.iaload, 1) := by decide +kernel
theorem dX6_move_11 : decode cX6_move 11 = .ok (.iastore, 1) := by decide +kernel
theorem dX6_move_12 : decode cX6_move 12 = .ok (.aload_n 0, 1) := by decide +kernel
theorem dX6_move_13 : decode cX6_move 13 = .ok (.getfield 17, 3) := by decide +kernel
theorem dX6_move_16 : decode cX6_move 16 = .ok (.iload_n 2, 1) := by decide +kernel
theorem dX6_move_17 : decode cX6_move 17 = .ok (.aload_n 0, 1) := by decide +kernel
theorem dX6_move_18 : decode cX6_move 18 = .ok (.getfield 17, 3) := by decide +kernel
theorem dX6_move_21 : decode cX6_move 21 = .ok (.iload_n 1, 1) := by decide +kernel
theorem dX6_move_22 : decode cX6_move 22 = .ok (.iaload, 1) := by decide +kernel
theorem dX6_move_23 : decode cX6_move 23 = .ok (.iastore, 1) := by decide +kernel
theorem dX6_move_24 : decode cX6_move 24 = .ok (.aload_n 0, 1) := by decide +kernel
theorem dX6_move_25 : decode cX6_move 25 = .ok (.getfield 20, 3) := by decide +kernel
theorem dX6_move_28 : decode cX6_move 28 = .ok (.iload_n 2, 1) := by decide +kernel
theorem dX6_move_29 : decode cX6_move 29 = .ok (.aload_n 0, 1) := by decide +kernel
theorem dX6_move_30 : decode cX6_move 30 = .ok (.getfield 20, 3) := by decide +kernel
theorem dX6_move_33 : decode cX6_move 33 = .ok (.iload_n 1, 1) := by decide +kernel
theorem dX6_move_34 : decode cX6_move 34 = .ok (.iaload, 1) := by decide +kernel
theorem dX6_move_35 : decode cX6_move 35 = .ok (.iastore, 1) := by decide +kernel
theorem dX6_move_36 : decode cX6_move 36 = .ok (.aload_n 0, 1) := by decide +kernel
theorem dX6_move_37 : decode cX6_move 37 = .ok (.getfield 23, 3) := by decide +kernel
theorem dX6_move_40 : decode cX6_move 40 = .ok (.iload_n 2, 1) := by decide +kernel
theorem dX6_move_41 : decode cX6_move 41 = .ok (.aload_n 0, 1) := by decide +kernel
theorem dX6_move_42 : decode cX6_move 42 = .ok (.getfield 23, 3) := by decide +kernel
theorem dX6_move_45 : decode cX6_move 45 = .ok (.iload_n 1, 1) := by decide +kernel
theorem dX6_move_46 : decode cX6_move 46 = .ok (.iaload, 1) := by decide +kernel
theorem dX6_move_47 : decode cX6_move 47 = .ok (.iastore, 1) := by decide +kernel
theorem dX6_move_48 : decode cX6_move 48 = .ok (.aload_n 0, 1) := by decide +kernel
theorem dX6_move_49 : decode cX6_move 49 = .ok (.getfield 26, 3) := by decide +kernel
theorem dX6_move_52 : decode cX6_move 52 = .ok (.iload_n 2, 1) := by decide +kernel
theorem dX6_move_53 : decode cX6_move 53 = .ok (.aload_n 0, 1) := by decide +kernel
theorem dX6_move_54 : decode cX6_move 54 = .ok (.getfield 26, 3) := by decide +kernel
theorem dX6_move_57 : decode cX6_move 57 = .ok (.iload_n 1, 1) := by decide +kernel
theorem dX6_move_58 : decode cX6_move 58 = .ok (.iaload, 1) := by decide +kernel
theorem dX6_move_59 : decode cX6_move 59 = .ok (.iastore, 1) := by decide +kernel
theorem dX6_move_60 : decode cX6_move 60 = .ok (.aload_n 0, 1) := by decide +kernel
theorem dX6_move_61 : decode cX6_move 61 = .ok (.getfield 29, 3) := by decide +kernel
theorem dX6_move_64 : decode cX6_move 64 = .ok (.iload_n 2, 1) := by decide +kernel
theorem dX6_move_65 : decode cX6_move 65 = .ok (.aload_n 0, 1) := by decide +kernel
theorem dX6_move_66 : decode cX6_move 66 = .ok (.getfield 29, 3) := by decide +kernel
theorem dX6_move_69 : decode cX6_move 69 = .ok (.iload_n 1, 1) := by decide +kernel
theorem dX6_move_70 : decode cX6_move 70 = .ok (.iaload, 1) := by decide +kernel
theorem dX6_move_71 : decode cX6_move 71 = .ok (.iastore, 1) := by decide +kernel
theorem dX6_move_72 : decode cX6_move 72 = .ok (.return_, 1) := by decide +kernel
theorem dX7_init_0 : decode cX7_init 0 = .ok (.aload_n 0, 1) := by decide +kernel
theorem dX7_init_1 : decode cX7_init 1 = .ok (.invokespecial 3, 3) := by decide +kernel
theorem dX7_init_4 : decode cX7_init 4 = .ok (.return_, 1) := by decide +kernel
theorem dX7_isKind_0 : decode cX7_isKind 0 = .ok (.iload_n 0, 1) := by decide +kernel
theorem dX7_isKind_1 : decode cX7_isKind 1 = .ok (.ifCond .eq 22, 3) := by decide +kernel
theorem dX7_isKind_4 : decode cX7_isKind 4 = .ok (.iload_n 0, 1) := by decide +kernel
theorem dX7_isKind_5 : decode cX7_isKind 5 = .ok (.iconst 1, 1) := by decide +kernel
theorem dX7_isKind_6 : decode cX7_isKind 6 = .ok (.if_icmp .eq 17, 3) := by decide +kernel
theorem dX7_isKind_9 : decode cX7_isKind 9 = .ok (.iload_n 0, 1) := by decide +kernel
theorem dX7_isKind_10 : decode cX7_isKind 10 = .ok (.iconst 2, 1) := by decide +kernel
theorem dX7_isKind_11 : decode cX7_isKind 11 = .ok (.if_icmp .ne 16, 3) := by decide +kernel
theorem dX7_isKind_14 : decode cX7_isKind 14 = .ok (.iload_n 1, 1) := by decide +kernel
theorem dX7_isKind_15 : decode cX7_isKind 15 = .ok (.iconst 2, 1) := by decide +kernel
theorem dX7_isKind_16 : decode cX7_isKind 16 = .ok (.iconst 5, 1) := by decide +kernel
theorem dX7_isKind_17 : decode cX7_isKind 17 = .ok (.invokestatic 11, 3) := by decide +kernel
theorem dX7_isKind_20 : decode cX7_isKind 20 = .ok (.ifCond .eq 7, 3) := by decide +kernel
theorem dX7_isKind_23 : decode cX7_isKind 23 = .ok (.iconst 1, 1) := by decide +kernel
theorem dX7_isKind_24 : decode cX7_isKind 24 = .ok (.goto 4, 3) := by decide +kernel
theorem dX7_isKind_27 : decode cX7_isKind 27 = .ok (.iconst 0, 1) := by decide +kernel
theorem dX7_isKind_28 : decode cX7_isKind 28 = .ok (.ireturn, 1) := by decide +kernel
theorem dX7_begin_0 : decode cX7_begin 0 = .ok (.aload_n 0, 1) := by decide +kernel
theorem dX7_begin_1 : decode cX7_begin 1 = .ok (.iconst 1, 1) := by decide +kernel
theorem dX7_begin_2 : decode cX7_begin 2 = .ok (.putfield 15, 3) := by decide +kernel
theorem dX7_begin_5 : decode cX7_begin 5 = .ok (.aload_n 0, 1) := by decide +kernel
theorem dX7_begin_6 : decode cX7_begin 6 = .ok (.iload_n 1, 1) := by decide +kernel
theorem dX7_begin_7 : decode cX7_begin 7 = .ok (.putfield 19, 3) := by decide +kernel
theorem dX7_begin_10 : decode cX7_begin 10 = .ok (.aload_n 0, 1) := by decide +kernel
theorem dX7_begin_11 : decode cX7_begin 11 = .ok (.iload_n 1, 1) := by decide +kernel
theorem dX7_begin_12 : decode cX7_begin 12 = .ok (.iconst 2, 1) := by decide +kernel
theorem dX7_begin_13 : decode cX7_begin 13 = .ok (.if_icmp .ne 7, 3) := by decide +kernel
theorem dX7_begin_16 : decode cX7_begin 16 = .ok (.iload_n 2, 1) := by decide +kernel
theorem dX7_begin_17 : decode cX7_begin 17 = .ok (.goto 4, 3) := by decide +kernel
theorem dX7_begin_20 : decode cX7_begin 20 = .ok (.iconst 0, 1) := by decide +kernel
theorem dX7_begin_21 : decode cX7_begin 21 = .ok (.putfield 23, 3) := by decide +kernel
theorem dX7_begin_24 : decode cX7_begin 24 = .ok (.aload_n 0, 1) := by decide +kernel
theorem dX7_begin_25 : decode cX7_begin 25 = .ok (.iload_n 3, 1) := by decide +kernel
theorem dX7_begin_26 : decode cX7_begin 26 = .ok (.putfield 26, 3) := by decide +kernel
theorem dX7_begin_29 : decode cX7_begin 29 = .ok (.return_, 1) := by decide +kernel
theorem dX7_takes_0 : decode cX7_takes 0 = .ok (.aload_n 0, 1) := by decide +kernel
theorem dX7_takes_1 : decode cX7_takes 1 = .ok (.getfield 19, 3) := by decide +kernel
theorem dX7_takes_4 : decode cX7_takes 4 = .ok (.lookupswitch 44 #[(0, 28), (1, 36)], 28) := by decide +kernel
theorem dX7_takes_32 : decode cX7_takes 32 = .ok (.iload_n 1, 1) := by decide +kernel
theorem dX7_takes_33 : decode cX7_takes 33 = .ok (.iconst 0, 1) := by decide +kernel
theorem dX7_takes_34 : decode cX7_takes 34 = .ok (.bipush 7, 2) := by decide +kernel
theorem dX7_takes_36 : decode cX7_takes 36 = .ok (.invokestatic 11, 3) := by decide +kernel
theorem dX7_takes_39 : decode cX7_takes 39 = .ok (.ireturn, 1) := by decide +kernel
theorem dX7_takes_40 : decode cX7_takes 40 = .ok (.iload_n 1, 1) := by decide +kernel
theorem dX7_takes_41 : decode cX7_takes 41 = .ok (.iconst 0, 1) := by decide +kernel
theorem dX7_takes_42 : decode cX7_takes 42 = .ok (.ldc 29, 2) := by decide +kernel
theorem dX7_takes_44 : decode cX7_takes 44 = .ok (.invokestatic 11, 3) := by decide +kernel
theorem dX7_takes_47 : decode cX7_takes 47 = .ok (.ireturn, 1) := by decide +kernel
theorem dX7_takes_48 : decode cX7_takes 48 = .ok (.aload_n 0, 1) := by decide +kernel
theorem dX7_takes_49 : decode cX7_takes 49 = .ok (.iload_n 1, 1) := by decide +kernel
theorem dX7_takes_50 : decode cX7_takes 50 = .ok (.invokevirtual 30, 3) := by decide +kernel
theorem dX7_takes_53 : decode cX7_takes 53 = .ok (.ireturn, 1) := by decide +kernel
theorem dX7_isOrder_0 : decode cX7_isOrder 0 = .ok (.iload_n 1, 1) := by decide +kernel
theorem dX7_isOrder_1 : decode cX7_isOrder 1 = .ok (.ifCond .lt 14, 3) := by decide +kernel
theorem dX7_isOrder_4 : decode cX7_isOrder 4 = .ok (.iload_n 1, 1) := by decide +kernel
theorem dX7_isOrder_5 : decode cX7_isOrder 5 = .ok (.iconst 3, 1) := by decide +kernel
theorem dX7_isOrder_6 : decode cX7_isOrder 6 = .ok (.aload_n 0, 1) := by decide +kernel
theorem dX7_isOrder_7 : decode cX7_isOrder 7 = .ok (.getfield 23, 3) := by decide +kernel
theorem dX7_isOrder_10 : decode cX7_isOrder 10 = .ok (.imul, 1) := by decide +kernel
theorem dX7_isOrder_11 : decode cX7_isOrder 11 = .ok (.ishr, 1) := by decide +kernel
theorem dX7_isOrder_12 : decode cX7_isOrder 12 = .ok (.ifCond .eq 5, 3) := by decide +kernel
theorem dX7_isOrder_15 : decode cX7_isOrder 15 = .ok (.iconst 0, 1) := by decide +kernel
theorem dX7_isOrder_16 : decode cX7_isOrder 16 = .ok (.ireturn, 1) := by decide +kernel
theorem dX7_isOrder_17 : decode cX7_isOrder 17 = .ok (.iconst 0, 1) := by decide +kernel
theorem dX7_isOrder_18 : decode cX7_isOrder 18 = .ok (.istore_n 2, 1) := by decide +kernel
theorem dX7_isOrder_19 : decode cX7_isOrder 19 = .ok (.iconst 0, 1) := by decide +kernel
theorem dX7_isOrder_20 : decode cX7_isOrder 20 = .ok (.istore_n 3, 1) := by decide +kernel
theorem dX7_isOrder_21 : decode cX7_isOrder 21 = .ok (.iload_n 3, 1) := by decide +kernel
theorem dX7_isOrder_22 : decode cX7_isOrder 22 = .ok (.aload_n 0, 1) := by decide +kernel
theorem dX7_isOrder_23 : decode cX7_isOrder 23 = .ok (.getfield 23, 3) := by decide +kernel
theorem dX7_isOrder_26 : decode cX7_isOrder 26 = .ok (.if_icmp .ge 22, 3) := by decide +kernel
theorem dX7_isOrder_29 : decode cX7_isOrder 29 = .ok (.iload_n 2, 1) := by decide +kernel
theorem dX7_isOrder_30 : decode cX7_isOrder 30 = .ok (.iconst 1, 1) := by decide +kernel
theorem dX7_isOrder_31 : decode cX7_isOrder 31 = .ok (.iload_n 1, 1) := by decide +kernel
theorem dX7_isOrder_32 : decode cX7_isOrder 32 = .ok (.iconst 3, 1) := by decide +kernel
theorem dX7_isOrder_33 : decode cX7_isOrder 33 = .ok (.iload_n 3, 1) := by decide +kernel
theorem dX7_isOrder_34 : decode cX7_isOrder 34 = .ok (.imul, 1) := by decide +kernel
theorem dX7_isOrder_35 : decode cX7_isOrder 35 = .ok (.ishr, 1) := by decide +kernel
theorem dX7_isOrder_36 : decode cX7_isOrder 36 = .ok (.bipush 7, 2) := by decide +kernel
theorem dX7_isOrder_38 : decode cX7_isOrder 38 = .ok (.iand, 1) := by decide +kernel
theorem dX7_isOrder_39 : decode cX7_isOrder 39 = .ok (.ishl, 1) := by decide +kernel
theorem dX7_isOrder_40 : decode cX7_isOrder 40 = .ok (.ior, 1) := by decide +kernel
theorem dX7_isOrder_41 : decode cX7_isOrder 41 = .ok (.istore_n 2, 1) := by decide +kernel
theorem dX7_isOrder_42 : decode cX7_isOrder 42 = .ok (.iinc 3 1, 3) := by decide +kernel
theorem dX7_isOrder_45 : decode cX7_isOrder 45 = .ok (.goto (-24), 3) := by decide +kernel
theorem dX7_isOrder_48 : decode cX7_isOrder 48 = .ok (.iload_n 2, 1) := by decide +kernel
theorem dX7_isOrder_49 : decode cX7_isOrder 49 = .ok (.iconst 1, 1) := by decide +kernel
theorem dX7_isOrder_50 : decode cX7_isOrder 50 = .ok (.aload_n 0, 1) := by decide +kernel
theorem dX7_isOrder_51 : decode cX7_isOrder 51 = .ok (.getfield 23, 3) := by decide +kernel
theorem dX7_isOrder_54 : decode cX7_isOrder 54 = .ok (.ishl, 1) := by decide +kernel
theorem dX7_isOrder_55 : decode cX7_isOrder 55 = .ok (.iconst 1, 1) := by decide +kernel
theorem dX7_isOrder_56 : decode cX7_isOrder 56 = .ok (.isub, 1) := by decide +kernel
theorem dX7_isOrder_57 : decode cX7_isOrder 57 = .ok (.if_icmp .ne 7, 3) := by decide +kernel
theorem dX7_isOrder_60 : decode cX7_isOrder 60 = .ok (.iconst 1, 1) := by decide +kernel
theorem dX7_isOrder_61 : decode cX7_isOrder 61 = .ok (.goto 4, 3) := by decide +kernel
theorem dX7_isOrder_64 : decode cX7_isOrder 64 = .ok (.iconst 0, 1) := by decide +kernel
theorem dX7_isOrder_65 : decode cX7_isOrder 65 = .ok (.ireturn, 1) := by decide +kernel
theorem dX8_init_0 : decode cX8_init 0 = .ok (.aload_n 0, 1) := by decide +kernel
theorem dX8_init_1 : decode cX8_init 1 = .ok (.invokespecial 1, 3) := by decide +kernel
theorem dX8_init_4 : decode cX8_init 4 = .ok (.return_, 1) := by decide +kernel
theorem dX8_lay_0 : decode cX8_lay 0 = .ok (.aload_n 0, 1) := by decide +kernel
theorem dX8_lay_1 : decode cX8_lay 1 = .ok (.iload_n 1, 1) := by decide +kernel
theorem dX8_lay_2 : decode cX8_lay 2 = .ok (.putfield 7, 3) := by decide +kernel
theorem dX8_lay_5 : decode cX8_lay 5 = .ok (.aload_n 0, 1) := by decide +kernel
theorem dX8_lay_6 : decode cX8_lay 6 = .ok (.iload_n 2, 1) := by decide +kernel
theorem dX8_lay_7 : decode cX8_lay 7 = .ok (.putfield 13, 3) := by decide +kernel
theorem dX8_lay_10 : decode cX8_lay 10 = .ok (.aload_n 0, 1) := by decide +kernel
theorem dX8_lay_11 : decode cX8_lay 11 = .ok (.iconst 0, 1) := by decide +kernel
theorem dX8_lay_12 : decode cX8_lay 12 = .ok (.putfield 16, 3) := by decide +kernel
theorem dX8_lay_15 : decode cX8_lay 15 = .ok (.return_, 1) := by decide +kernel
theorem dX8_losesNext_0 : decode cX8_losesNext 0 = .ok (.aload_n 0, 1) := by decide +kernel
theorem dX8_losesNext_1 : decode cX8_losesNext 1 = .ok (.getfield 7, 3) := by decide +kernel
theorem dX8_losesNext_4 : decode cX8_losesNext 4 = .ok (.aload_n 0, 1) := by decide +kernel
theorem dX8_losesNext_5 : decode cX8_losesNext 5 = .ok (.getfield 16, 3) := by decide +kernel
theorem dX8_losesNext_8 : decode cX8_losesNext 8 = .ok (.ishr, 1) := by decide +kernel
theorem dX8_losesNext_9 : decode cX8_losesNext 9 = .ok (.iconst 1, 1) := by decide +kernel
theorem dX8_losesNext_10 : decode cX8_losesNext 10 = .ok (.iand, 1) := by decide +kernel
theorem dX8_losesNext_11 : decode cX8_losesNext 11 = .ok (.iconst 1, 1) := by decide +kernel
theorem dX8_losesNext_12 : decode cX8_losesNext 12 = .ok (.if_icmp .ne 7, 3) := by decide +kernel
theorem dX8_losesNext_15 : decode cX8_losesNext 15 = .ok (.iconst 1, 1) := by decide +kernel
theorem dX8_losesNext_16 : decode cX8_losesNext 16 = .ok (.goto 4, 3) := by decide +kernel
theorem dX8_losesNext_19 : decode cX8_losesNext 19 = .ok (.iconst 0, 1) := by decide +kernel
theorem dX8_losesNext_20 : decode cX8_losesNext 20 = .ok (.istore_n 1, 1) := by decide +kernel
theorem dX8_losesNext_21 : decode cX8_losesNext 21 = .ok (.aload_n 0, 1) := by decide +kernel
theorem dX8_losesNext_22 : decode cX8_losesNext 22 = .ok (.aload_n 0, 1) := by decide +kernel
theorem dX8_losesNext_23 : decode cX8_losesNext 23 = .ok (.getfield 16, 3) := by decide +kernel
theorem dX8_losesNext_26 : decode cX8_losesNext 26 = .ok (.iconst 1, 1) := by decide +kernel
theorem dX8_losesNext_27 : decode cX8_losesNext 27 = .ok (.iadd, 1) := by decide +kernel
theorem dX8_losesNext_28 : decode cX8_losesNext 28 = .ok (.bipush 15, 2) := by decide +kernel
theorem dX8_losesNext_30 : decode cX8_losesNext 30 = .ok (.iand, 1) := by decide +kernel
theorem dX8_losesNext_31 : decode cX8_losesNext 31 = .ok (.putfield 16, 3) := by decide +kernel
theorem dX8_losesNext_34 : decode cX8_losesNext 34 = .ok (.iload_n 1, 1) := by decide +kernel
theorem dX8_losesNext_35 : decode cX8_losesNext 35 = .ok (.ireturn, 1) := by decide +kernel
theorem dX9_init_0 : decode cX9_init 0 = .ok (.aload_n 0, 1) := by decide +kernel
theorem dX9_init_1 : decode cX9_init 1 = .ok (.invokespecial 1, 3) := by decide +kernel
theorem dX9_init_4 : decode cX9_init 4 = .ok (.aload_n 0, 1) := by decide +kernel
theorem dX9_init_5 : decode cX9_init 5 = .ok (.bipush 16, 2) := by decide +kernel
theorem dX9_init_7 : decode cX9_init 7 = .ok (.anewarray 9, 3) := by decide +kernel
theorem dX9_init_10 : decode cX9_init 10 = .ok (.putfield 11, 3) := by decide +kernel
theorem dX9_init_13 : decode cX9_init 13 = .ok (.aload_n 0, 1) := by decide +kernel
theorem dX9_init_14 : decode cX9_init 14 = .ok (.new 15, 3) := by decide +kernel
theorem dX9_init_17 : decode cX9_init 17 = .ok (.dup, 1) := by decide +kernel
theorem dX9_init_18 : decode cX9_init 18 = .ok (.invokespecial 17, 3) := by decide +kernel
theorem dX9_init_21 : decode cX9_init 21 = .ok (.putfield 18, 3) := by decide +kernel
theorem dX9_init_24 : decode cX9_init 24 = .ok (.aload_n 0, 1) := by decide +kernel
theorem dX9_init_25 : decode cX9_init 25 = .ok (.new 22, 3) := by decide +kernel
theorem dX9_init_28 : decode cX9_init 28 = .ok (.dup, 1) := by decide +kernel
theorem dX9_init_29 : decode cX9_init 29 = .ok (.invokespecial 24, 3) := by decide +kernel
theorem dX9_init_32 : decode cX9_init 32 = .ok (.putfield 25, 3) := by decide +kernel
theorem dX9_init_35 : decode cX9_init 35 = .ok (.aload_n 0, 1) := by decide +kernel
theorem dX9_init_36 : decode cX9_init 36 = .ok (.new 29, 3) := by decide +kernel
theorem dX9_init_39 : decode cX9_init 39 = .ok (.dup, 1) := by decide +kernel
theorem dX9_init_40 : decode cX9_init 40 = .ok (.invokespecial 31, 3) := by decide +kernel
theorem dX9_init_43 : decode cX9_init 43 = .ok (.putfield 32, 3) := by decide +kernel
theorem dX9_init_46 : decode cX9_init 46 = .ok (.aload_n 0, 1) := by decide +kernel
theorem dX9_init_47 : decode cX9_init 47 = .ok (.new 36, 3) := by decide +kernel
theorem dX9_init_50 : decode cX9_init 50 = .ok (.dup, 1) := by decide +kernel
theorem dX9_init_51 : decode cX9_init 51 = .ok (.invokespecial 38, 3) := by decide +kernel
theorem dX9_init_54 : decode cX9_init 54 = .ok (.putfield 39, 3) := by decide +kernel
theorem dX9_init_57 : decode cX9_init 57 = .ok (.aload_n 0, 1) := by decide +kernel
theorem dX9_init_58 : decode cX9_init 58 = .ok (.new 43, 3) := by decide +kernel
theorem dX9_init_61 : decode cX9_init 61 = .ok (.dup, 1) := by decide +kernel
theorem dX9_init_62 : decode cX9_init 62 = .ok (.invokespecial 45, 3) := by decide +kernel
theorem dX9_init_65 : decode cX9_init 65 = .ok (.putfield 46, 3) := by decide +kernel
theorem dX9_init_68 : decode cX9_init 68 = .ok (.aload_n 0, 1) := by decide +kernel
theorem dX9_init_69 : decode cX9_init 69 = .ok (.new 50, 3) := by decide +kernel
theorem dX9_init_72 : decode cX9_init 72 = .ok (.dup, 1) := by decide +kernel
theorem dX9_init_73 : decode cX9_init 73 = .ok (.invokespecial 52, 3) := by decide +kernel
theorem dX9_init_76 : decode cX9_init 76 = .ok (.putfield 53, 3) := by decide +kernel
theorem dX9_init_79 : decode cX9_init 79 = .ok (.iconst 0, 1) := by decide +kernel
theorem dX9_init_80 : decode cX9_init 80 = .ok (.istore_n 1, 1) := by decide +kernel
theorem dX9_init_81 : decode cX9_init 81 = .ok (.iload_n 1, 1) := by decide +kernel
theorem dX9_init_82 : decode cX9_init 82 = .ok (.bipush 16, 2) := by decide +kernel
theorem dX9_init_84 : decode cX9_init 84 = .ok (.if_icmp .ge 22, 3) := by decide +kernel
theorem dX9_init_87 : decode cX9_init 87 = .ok (.aload_n 0, 1) := by decide +kernel
theorem dX9_init_88 : decode cX9_init 88 = .ok (.getfield 11, 3) := by decide +kernel
theorem dX9_init_91 : decode cX9_init 91 = .ok (.iload_n 1, 1) := by decide +kernel
theorem dX9_init_92 : decode cX9_init 92 = .ok (.new 9, 3) := by decide +kernel
theorem dX9_init_95 : decode cX9_init 95 = .ok (.dup, 1) := by decide +kernel
theorem dX9_init_96 : decode cX9_init 96 = .ok (.invokespecial 57, 3) := by decide +kernel
theorem dX9_init_99 : decode cX9_init 99 = .ok (.aastore, 1) := by decide +kernel
theorem dX9_init_100 : decode cX9_init 100 = .ok (.iinc 1 1, 3) := by decide +kernel
theorem dX9_init_103 : decode cX9_init 103 = .ok (.goto (-22), 3) := by decide +kernel
theorem dX9_init_106 : decode cX9_init 106 = .ok (.return_, 1) := by decide +kernel
theorem dX9_box_0 : decode cX9_box 0 = .ok (.aload_n 0, 1) := by decide +kernel
theorem dX9_box_1 : decode cX9_box 1 = .ok (.getfield 18, 3) := by decide +kernel
theorem dX9_box_4 : decode cX9_box 4 = .ok (.getfield 58, 3) := by decide +kernel
theorem dX9_box_7 : decode cX9_box 7 = .ok (.ifCond .eq 6, 3) := by decide +kernel
theorem dX9_box_10 : decode cX9_box 10 = .ok (.bipush (-2), 2) := by decide +kernel
theorem dX9_box_12 : decode cX9_box 12 = .ok (.ireturn, 1) := by decide +kernel
theorem dX9_box_13 : decode cX9_box 13 = .ok (.aload_n 0, 1) := by decide +kernel
theorem dX9_box_14 : decode cX9_box 14 = .ok (.getfield 62, 3) := by decide +kernel
theorem dX9_box_17 : decode cX9_box 17 = .ok (.bipush 16, 2) := by decide +kernel
theorem dX9_box_19 : decode cX9_box 19 = .ok (.if_icmp .lt 6, 3) := by decide +kernel
theorem dX9_box_22 : decode cX9_box 22 = .ok (.bipush (-3), 2) := by decide +kernel
theorem dX9_box_24 : decode cX9_box 24 = .ok (.ireturn, 1) := by decide +kernel
theorem dX9_box_25 : decode cX9_box 25 = .ok (.aload_n 0, 1) := by decide +kernel
theorem dX9_box_26 : decode cX9_box 26 = .ok (.dup, 1) := by decide +kernel
theorem dX9_box_27 : decode cX9_box 27 = .ok (.getfield 62, 3) := by decide +kernel
theorem dX9_box_30 : decode cX9_box 30 = .ok (.iconst 1, 1) := by decide +kernel
theorem dX9_box_31 : decode cX9_box 31 = .ok (.iadd, 1) := by decide +kernel
theorem dX9_box_32 : decode cX9_box 32 = .ok (.putfield 62, 3) := by decide +kernel
theorem dX9_box_35 : decode cX9_box 35 = .ok (.aload_n 0, 1) := by decide +kernel
theorem dX9_box_36 : decode cX9_box 36 = .ok (.getfield 62, 3) := by decide +kernel
theorem dX9_box_39 : decode cX9_box 39 = .ok (.iconst 1, 1) := by decide +kernel
theorem dX9_box_40 : decode cX9_box 40 = .ok (.isub, 1) := by decide +kernel
theorem dX9_box_41 : decode cX9_box 41 = .ok (.ireturn, 1) := by decide +kernel
theorem dX9_road_0 : decode cX9_road 0 = .ok (.aload_n 0, 1) := by decide +kernel
theorem dX9_road_1 : decode cX9_road 1 = .ok (.iload_n 1, 1) := by decide +kernel
theorem dX9_road_2 : decode cX9_road 2 = .ok (.invokevirtual 66, 3) := by decide +kernel
theorem dX9_road_5 : decode cX9_road 5 = .ok (.ifCond .eq 31, 3) := by decide +kernel
theorem dX9_road_8 : decode cX9_road 8 = .ok (.iload_n 2, 1) := by decide +kernel
theorem dX9_road_9 : decode cX9_road 9 = .ok (.invokestatic 70, 3) := by decide +kernel
theorem dX9_road_12 : decode cX9_road 12 = .ok (.ifCond .eq 24, 3) := by decide +kernel
theorem dX9_road_15 : decode cX9_road 15 = .ok (.iload_n 3, 1) := by decide +kernel
theorem dX9_road_16 : decode cX9_road 16 = .ok (.iconst 0, 1) := by decide +kernel
theorem dX9_road_17 : decode cX9_road 17 = .ok (.ldc 75, 2) := by decide +kernel
theorem dX9_road_19 : decode cX9_road 19 = .ok (.invokestatic 76, 3) := by decide +kernel
theorem dX9_road_22 : decode cX9_road 22 = .ok (.ifCond .eq 14, 3) := by decide +kernel
theorem dX9_road_25 : decode cX9_road 25 = .ok (.iload 4, 2) := by decide +kernel
theorem dX9_road_27 : decode cX9_road 27 = .ok (.iconst 0, 1) := by decide +kernel
theorem dX9_road_28 : decode cX9_road 28 = .ok (.bipush 9, 2) := by decide +kernel
theorem dX9_road_30 : decode cX9_road 30 = .ok (.invokestatic 76, 3) := by decide +kernel
theorem dX9_road_33 : decode cX9_road 33 = .ok (.ifCond .ne 5, 3) := by decide +kernel
theorem dX9_road_36 : decode cX9_road 36 = .ok (.iconst (-1), 1) := by decide +kernel
theorem dX9_road_37 : decode cX9_road 37 = .ok (.ireturn, 1) := by decide +kernel
theorem dX9_road_38 : decode cX9_road 38 = .ok (.aload_n 0, 1) := by decide +kernel
theorem dX9_road_39 : decode cX9_road 39 = .ok (.getfield 11, 3) := by decide +kernel
theorem dX9_road_42 : decode cX9_road 42 = .ok (.iload_n 1, 1) := by decide +kernel
theorem dX9_road_43 : decode cX9_road 43 = .ok (.aaload, 1) := by decide +kernel
theorem dX9_road_44 : decode cX9_road 44 = .ok (.getfield 80, 3) := by decide +kernel
theorem dX9_road_47 : decode cX9_road 47 = .ok (.iload_n 2, 1) := by decide +kernel
theorem dX9_road_48 : decode cX9_road 48 = .ok (.aaload, 1) := by decide +kernel
theorem dX9_road_49 : decode cX9_road 49 = .ok (.iload_n 3, 1) := by decide +kernel
theorem dX9_road_50 : decode cX9_road 50 = .ok (.iload 4, 2) := by decide +kernel
theorem dX9_road_52 : decode cX9_road 52 = .ok (.invokevirtual 84, 3) := by decide +kernel
theorem dX9_road_55 : decode cX9_road 55 = .ok (.iconst 0, 1) := by decide +kernel
theorem dX9_road_56 : decode cX9_road 56 = .ok (.ireturn, 1) := by decide +kernel
theorem dX9_rule_0 : decode cX9_rule 0 = .ok (.iload_n 1, 1) := by decide +kernel
theorem dX9_rule_1 : decode cX9_rule 1 = .ok (.ifCond .ne 24, 3) := by decide +kernel
theorem dX9_rule_4 : decode cX9_rule 4 = .ok (.iload_n 2, 1) := by decide +kernel
theorem dX9_rule_5 : decode cX9_rule 5 = .ok (.iconst 0, 1) := by decide +kernel
theorem dX9_rule_6 : decode cX9_rule 6 = .ok (.iconst 1, 1) := by decide +kernel
theorem dX9_rule_7 : decode cX9_rule 7 = .ok (.invokestatic 76, 3) := by decide +kernel
theorem dX9_rule_10 : decode cX9_rule 10 = .ok (.ifCond .eq 15, 3) := by decide +kernel
theorem dX9_rule_13 : decode cX9_rule 13 = .ok (.aload_n 0, 1) := by decide +kernel
theorem dX9_rule_14 : decode cX9_rule 14 = .ok (.getfield 88, 3) := by decide +kernel
theorem dX9_rule_17 : decode cX9_rule 17 = .ok (.istore_n 3, 1) := by decide +kernel
theorem dX9_rule_18 : decode cX9_rule 18 = .ok (.aload_n 0, 1) := by decide +kernel
theorem dX9_rule_19 : decode cX9_rule 19 = .ok (.iload_n 2, 1) := by decide +kernel
theorem dX9_rule_20 : decode cX9_rule 20 = .ok (.putfield 88, 3) := by decide +kernel
theorem dX9_rule_23 : decode cX9_rule 23 = .ok (.iload_n 3, 1) := by decide +kernel
theorem dX9_rule_24 : decode cX9_rule 24 = .ok (.ireturn, 1) := by decide +kernel
theorem dX9_rule_25 : decode cX9_rule 25 = .ok (.iload_n 1, 1) := by decide +kernel
theorem dX9_rule_26 : decode cX9_rule 26 = .ok (.iconst 1, 1) := by decide +kernel
theorem dX9_rule_27 : decode cX9_rule 27 = .ok (.if_icmp .ne 25, 3) := by decide +kernel
theorem dX9_rule_30 : decode cX9_rule 30 = .ok (.iload_n 2, 1) := by decide +kernel
theorem dX9_rule_31 : decode cX9_rule 31 = .ok (.iconst 0, 1) := by decide +kernel
theorem dX9_rule_32 : decode cX9_rule 32 = .ok (.bipush 16, 2) := by decide +kernel
theorem dX9_rule_34 : decode cX9_rule 34 = .ok (.invokestatic 76, 3) := by decide +kernel
theorem dX9_rule_37 : decode cX9_rule 37 = .ok (.ifCond .eq 15, 3) := by decide +kernel
theorem dX9_rule_40 : decode cX9_rule 40 = .ok (.aload_n 0, 1) := by decide +kernel
theorem dX9_rule_41 : decode cX9_rule 41 = .ok (.getfield 91, 3) := by decide +kernel
theorem dX9_rule_44 : decode cX9_rule 44 = .ok (.istore_n 3, 1) := by decide +kernel
theorem dX9_rule_45 : decode cX9_rule 45 = .ok (.aload_n 0, 1) := by decide +kernel
theorem dX9_rule_46 : decode cX9_rule 46 = .ok (.iload_n 2, 1) := by decide +kernel
theorem dX9_rule_47 : decode cX9_rule 47 = .ok (.putfield 91, 3) := by decide +kernel
theorem dX9_rule_50 : decode cX9_rule 50 = .ok (.iload_n 3, 1) := by decide +kernel
theorem dX9_rule_51 : decode cX9_rule 51 = .ok (.ireturn, 1) := by decide +kernel
theorem dX9_rule_52 : decode cX9_rule 52 = .ok (.iconst (-1), 1) := by decide +kernel
theorem dX9_rule_53 : decode cX9_rule 53 = .ok (.ireturn, 1) := by decide +kernel
theorem dX9_ask_0 : decode cX9_ask 0 = .ok (.iload_n 1, 1) := by decide +kernel
theorem dX9_ask_1 : decode cX9_ask 1 = .ok (.iload_n 2, 1) := by decide +kernel
theorem dX9_ask_2 : decode cX9_ask 2 = .ok (.invokestatic 94, 3) := by decide +kernel
theorem dX9_ask_5 : decode cX9_ask 5 = .ok (.ifCond .eq 17, 3) := by decide +kernel
theorem dX9_ask_8 : decode cX9_ask 8 = .ok (.iload_n 3, 1) := by decide +kernel
theorem dX9_ask_9 : decode cX9_ask 9 = .ok (.aload_n 0, 1) := by decide +kernel
theorem dX9_ask_10 : decode cX9_ask 10 = .ok (.getfield 98, 3) := by decide +kernel
theorem dX9_ask_13 : decode cX9_ask 13 = .ok (.if_icmp .le 9, 3) := by decide +kernel
theorem dX9_ask_16 : decode cX9_ask 16 = .ok (.iload_n 3, 1) := by decide +kernel
theorem dX9_ask_17 : decode cX9_ask 17 = .ok (.ldc 101, 2) := by decide +kernel
theorem dX9_ask_19 : decode cX9_ask 19 = .ok (.if_icmp .le 5, 3) := by decide +kernel
theorem dX9_ask_22 : decode cX9_ask 22 = .ok (.iconst (-1), 1) := by decide +kernel
theorem dX9_ask_23 : decode cX9_ask 23 = .ok (.ireturn, 1) := by decide +kernel
theorem dX9_ask_24 : decode cX9_ask 24 = .ok (.aload_n 0, 1) := by decide +kernel
theorem dX9_ask_25 : decode cX9_ask 25 = .ok (.getfield 18, 3) := by decide +kernel
theorem dX9_ask_28 : decode cX9_ask 28 = .ok (.getfield 58, 3) := by decide +kernel
theorem dX9_ask_31 : decode cX9_ask 31 = .ok (.ifCond .eq 6, 3) := by decide +kernel
theorem dX9_ask_34 : decode cX9_ask 34 = .ok (.bipush (-2), 2) := by decide +kernel
theorem dX9_ask_36 : decode cX9_ask 36 = .ok (.ireturn, 1) := by decide +kernel
theorem dX9_ask_37 : decode cX9_ask 37 = .ok (.aload_n 0, 1) := by decide +kernel
theorem dX9_ask_38 : decode cX9_ask 38 = .ok (.getfield 18, 3) := by decide +kernel
theorem dX9_ask_41 : decode cX9_ask 41 = .ok (.iload_n 1, 1) := by decide +kernel
theorem dX9_ask_42 : decode cX9_ask 42 = .ok (.iload_n 2, 1) := by decide +kernel
theorem dX9_ask_43 : decode cX9_ask 43 = .ok (.iload_n 3, 1) := by decide +kernel
theorem dX9_ask_44 : decode cX9_ask 44 = .ok (.invokevirtual 102, 3) := by decide +kernel
theorem dX9_ask_47 : decode cX9_ask 47 = .ok (.iconst 0, 1) := by decide +kernel
theorem dX9_ask_48 : decode cX9_ask 48 = .ok (.istore 4, 2) := by decide +kernel
theorem dX9_ask_50 : decode cX9_ask 50 = .ok (.iload 4, 2) := by decide +kernel
theorem dX9_ask_52 : decode cX9_ask 52 = .ok (.aload_n 0, 1) := by decide +kernel
theorem dX9_ask_53 : decode cX9_ask 53 = .ok (.getfield 62, 3) := by decide +kernel
theorem dX9_ask_56 : decode cX9_ask 56 = .ok (.if_icmp .ge 19, 3) := by decide +kernel
theorem dX9_ask_59 : decode cX9_ask 59 = .ok (.aload_n 0, 1) := by decide +kernel
theorem dX9_ask_60 : decode cX9_ask 60 = .ok (.getfield 11, 3) := by decide +kernel
theorem dX9_ask_63 : decode cX9_ask 63 = .ok (.iload 4, 2) := by decide +kernel
theorem dX9_ask_65 : decode cX9_ask 65 = .ok (.aaload, 1) := by decide +kernel
theorem dX9_ask_66 : decode cX9_ask 66 = .ok (.invokevirtual 106, 3) := by decide +kernel
theorem dX9_ask_69 : decode cX9_ask 69 = .ok (.iinc 4 1, 3) := by decide +kernel
theorem dX9_ask_72 : decode cX9_ask 72 = .ok (.goto (-22), 3) := by decide +kernel
theorem dX9_ask_75 : decode cX9_ask 75 = .ok (.iconst 0, 1) := by decide +kernel
theorem dX9_ask_76 : decode cX9_ask 76 = .ok (.ireturn, 1) := by decide +kernel
theorem dX9_send_0 : decode cX9_send 0 = .ok (.aload_n 0, 1) := by decide +kernel
theorem dX9_send_1 : decode cX9_send 1 = .ok (.iload_n 1, 1) := by decide +kernel
theorem dX9_send_2 : decode cX9_send 2 = .ok (.invokevirtual 66, 3) := by decide +kernel
theorem dX9_send_5 : decode cX9_send 5 = .ok (.ifCond .ne 5, 3) := by decide +kernel
theorem dX9_send_8 : decode cX9_send 8 = .ok (.iconst (-1), 1) := by decide +kernel
theorem dX9_send_9 : decode cX9_send 9 = .ok (.ireturn, 1) := by decide +kernel
theorem dX9_send_10 : decode cX9_send 10 = .ok (.aload_n 0, 1) := by decide +kernel
theorem dX9_send_11 : decode cX9_send 11 = .ok (.getfield 18, 3) := by decide +kernel
theorem dX9_send_14 : decode cX9_send 14 = .ok (.getfield 58, 3) := by decide +kernel
theorem dX9_send_17 : decode cX9_send 17 = .ok (.ifCond .ne 6, 3) := by decide +kernel
theorem dX9_send_20 : decode cX9_send 20 = .ok (.bipush (-2), 2) := by decide +kernel
theorem dX9_send_22 : decode cX9_send 22 = .ok (.ireturn, 1) := by decide +kernel
theorem dX9_send_23 : decode cX9_send 23 = .ok (.aload_n 0, 1) := by decide +kernel
theorem dX9_send_24 : decode cX9_send 24 = .ok (.getfield 18, 3) := by decide +kernel
theorem dX9_send_27 : decode cX9_send 27 = .ok (.iload_n 2, 1) := by decide +kernel
theorem dX9_send_28 : decode cX9_send 28 = .ok (.invokevirtual 109, 3) := by decide +kernel
theorem dX9_send_31 : decode cX9_send 31 = .ok (.ifCond .ne 5, 3) := by decide +kernel
theorem dX9_send_34 : decode cX9_send 34 = .ok (.iconst (-1), 1) := by decide +kernel
theorem dX9_send_35 : decode cX9_send 35 = .ok (.ireturn, 1) := by decide +kernel
theorem dX9_send_36 : decode cX9_send 36 = .ok (.aload_n 0, 1) := by decide +kernel
theorem dX9_send_37 : decode cX9_send 37 = .ok (.getfield 11, 3) := by decide +kernel
theorem dX9_send_40 : decode cX9_send 40 = .ok (.iload_n 1, 1) := by decide +kernel
theorem dX9_send_41 : decode cX9_send 41 = .ok (.aaload, 1) := by decide +kernel
theorem dX9_send_42 : decode cX9_send 42 = .ok (.iload_n 2, 1) := by decide +kernel
theorem dX9_send_43 : decode cX9_send 43 = .ok (.aload_n 0, 1) := by decide +kernel
theorem dX9_send_44 : decode cX9_send 44 = .ok (.getfield 98, 3) := by decide +kernel
theorem dX9_send_47 : decode cX9_send 47 = .ok (.invokevirtual 112, 3) := by decide +kernel
theorem dX9_send_50 : decode cX9_send 50 = .ok (.ireturn, 1) := by decide +kernel
theorem dX9_ticks_0 : decode cX9_ticks 0 = .ok (.iload_n 1, 1) := by decide +kernel
theorem dX9_ticks_1 : decode cX9_ticks 1 = .ok (.iconst 1, 1) := by decide +kernel
theorem dX9_ticks_2 : decode cX9_ticks 2 = .ok (.sipush 200, 3) := by decide +kernel
theorem dX9_ticks_5 : decode cX9_ticks 5 = .ok (.invokestatic 76, 3) := by decide +kernel
theorem dX9_ticks_8 : decode cX9_ticks 8 = .ok (.ifCond .ne 5, 3) := by decide +kernel
theorem dX9_ticks_11 : decode cX9_ticks 11 = .ok (.iconst (-1), 1) := by decide +kernel
theorem dX9_ticks_12 : decode cX9_ticks 12 = .ok (.ireturn, 1) := by decide +kernel
theorem dX9_ticks_13 : decode cX9_ticks 13 = .ok (.aload_n 0, 1) := by decide +kernel
theorem dX9_ticks_14 : decode cX9_ticks 14 = .ok (.getfield 98, 3) := by decide +kernel
theorem dX9_ticks_17 : decode cX9_ticks 17 = .ok (.iload_n 1, 1) := by decide +kernel
theorem dX9_ticks_18 : decode cX9_ticks 18 = .ok (.iadd, 1) := by decide +kernel
theorem dX9_ticks_19 : decode cX9_ticks 19 = .ok (.ldc 101, 2) := by decide +kernel
theorem dX9_ticks_21 : decode cX9_ticks 21 = .ok (.if_icmp .le 6, 3) := by decide +kernel
theorem dX9_ticks_24 : decode cX9_ticks 24 = .ok (.bipush (-3), 2) := by decide +kernel
theorem dX9_ticks_26 : decode cX9_ticks 26 = .ok (.ireturn, 1) := by decide +kernel
theorem dX9_ticks_27 : decode cX9_ticks 27 = .ok (.aload_n 0, 1) := by decide +kernel
theorem dX9_ticks_28 : decode cX9_ticks 28 = .ok (.getfield 98, 3) := by decide +kernel
theorem dX9_ticks_31 : decode cX9_ticks 31 = .ok (.iload_n 1, 1) := by decide +kernel
theorem dX9_ticks_32 : decode cX9_ticks 32 = .ok (.iadd, 1) := by decide +kernel
theorem dX9_ticks_33 : decode cX9_ticks 33 = .ok (.istore_n 2, 1) := by decide +kernel
theorem dX9_ticks_34 : decode cX9_ticks 34 = .ok (.iconst 0, 1) := by decide +kernel
theorem dX9_ticks_35 : decode cX9_ticks 35 = .ok (.istore_n 3, 1) := by decide +kernel
theorem dX9_ticks_36 : decode cX9_ticks 36 = .ok (.iload_n 3, 1) := by decide +kernel
theorem dX9_ticks_37 : decode cX9_ticks 37 = .ok (.iload_n 1, 1) := by decide +kernel
theorem dX9_ticks_38 : decode cX9_ticks 38 = .ok (.if_icmp .ge 20, 3) := by decide +kernel
theorem dX9_ticks_41 : decode cX9_ticks 41 = .ok (.aload_n 0, 1) := by decide +kernel
theorem dX9_ticks_42 : decode cX9_ticks 42 = .ok (.invokevirtual 116, 3) := by decide +kernel
theorem dX9_ticks_45 : decode cX9_ticks 45 = .ok (.ifCond .ne 13, 3) := by decide +kernel
theorem dX9_ticks_48 : decode cX9_ticks 48 = .ok (.aload_n 0, 1) := by decide +kernel
theorem dX9_ticks_49 : decode cX9_ticks 49 = .ok (.invokevirtual 120, 3) := by decide +kernel
theorem dX9_ticks_52 : decode cX9_ticks 52 = .ok (.iinc 3 1, 3) := by decide +kernel
theorem dX9_ticks_55 : decode cX9_ticks 55 = .ok (.goto (-19), 3) := by decide +kernel
theorem dX9_ticks_58 : decode cX9_ticks 58 = .ok (.aload_n 0, 1) := by decide +kernel
theorem dX9_ticks_59 : decode cX9_ticks 59 = .ok (.iload_n 2, 1) := by decide +kernel
theorem dX9_ticks_60 : decode cX9_ticks 60 = .ok (.putfield 98, 3) := by decide +kernel
theorem dX9_ticks_63 : decode cX9_ticks 63 = .ok (.aload_n 0, 1) := by decide +kernel
theorem dX9_ticks_64 : decode cX9_ticks 64 = .ok (.getfield 98, 3) := by decide +kernel
theorem dX9_ticks_67 : decode cX9_ticks 67 = .ok (.ireturn, 1) := by decide +kernel
theorem dX9_isQuiet_0 : decode cX9_isQuiet 0 = .ok (.aload_n 0, 1) := by decide +kernel
theorem dX9_isQuiet_1 : decode cX9_isQuiet 1 = .ok (.getfield 25, 3) := by decide +kernel
theorem dX9_isQuiet_4 : decode cX9_isQuiet 4 = .ok (.getfield 123, 3) := by decide +kernel
theorem dX9_isQuiet_7 : decode cX9_isQuiet 7 = .ok (.ifCond .le 5, 3) := by decide +kernel
theorem dX9_isQuiet_10 : decode cX9_isQuiet 10 = .ok (.iconst 0, 1) := by decide +kernel
theorem dX9_isQuiet_11 : decode cX9_isQuiet 11 = .ok (.ireturn, 1) := by decide +kernel
theorem dX9_isQuiet_12 : decode cX9_isQuiet 12 = .ok (.iconst 0, 1) := by decide +kernel
theorem dX9_isQuiet_13 : decode cX9_isQuiet 13 = .ok (.istore_n 1, 1) := by decide +kernel
theorem dX9_isQuiet_14 : decode cX9_isQuiet 14 = .ok (.iload_n 1, 1) := by decide +kernel
theorem dX9_isQuiet_15 : decode cX9_isQuiet 15 = .ok (.aload_n 0, 1) := by decide +kernel
theorem dX9_isQuiet_16 : decode cX9_isQuiet 16 = .ok (.getfield 62, 3) := by decide +kernel
theorem dX9_isQuiet_19 : decode cX9_isQuiet 19 = .ok (.if_icmp .ge 24, 3) := by decide +kernel
theorem dX9_isQuiet_22 : decode cX9_isQuiet 22 = .ok (.aload_n 0, 1) := by decide +kernel
theorem dX9_isQuiet_23 : decode cX9_isQuiet 23 = .ok (.aload_n 0, 1) := by decide +kernel
theorem dX9_isQuiet_24 : decode cX9_isQuiet 24 = .ok (.getfield 11, 3) := by decide +kernel
theorem dX9_isQuiet_27 : decode cX9_isQuiet 27 = .ok (.iload_n 1, 1) := by decide +kernel
theorem dX9_isQuiet_28 : decode cX9_isQuiet 28 = .ok (.aaload, 1) := by decide +kernel
theorem dX9_isQuiet_29 : decode cX9_isQuiet 29 = .ok (.invokevirtual 126, 3) := by decide +kernel
theorem dX9_isQuiet_32 : decode cX9_isQuiet 32 = .ok (.ifCond .eq 5, 3) := by decide +kernel
theorem dX9_isQuiet_35 : decode cX9_isQuiet 35 = .ok (.iconst 0, 1) := by decide +kernel
theorem dX9_isQuiet_36 : decode cX9_isQuiet 36 = .ok (.ireturn, 1) := by decide +kernel
theorem dX9_isQuiet_37 : decode cX9_isQuiet 37 = .ok (.iinc 1 1, 3) := by decide +kernel
theorem dX9_isQuiet_40 : decode cX9_isQuiet 40 = .ok (.goto (-26), 3) := by decide +kernel
theorem dX9_isQuiet_43 : decode cX9_isQuiet 43 = .ok (.iconst 1, 1) := by decide +kernel
theorem dX9_isQuiet_44 : decode cX9_isQuiet 44 = .ok (.ireturn, 1) := by decide +kernel
theorem dX9_passTick_0 : decode cX9_passTick 0 = .ok (.iconst 0, 1) := by decide +kernel
theorem dX9_passTick_1 : decode cX9_passTick 1 = .ok (.istore_n 1, 1) := by decide +kernel
theorem dX9_passTick_2 : decode cX9_passTick 2 = .ok (.iload_n 1, 1) := by decide +kernel
theorem dX9_passTick_3 : decode cX9_passTick 3 = .ok (.aload_n 0, 1) := by decide +kernel
theorem dX9_passTick_4 : decode cX9_passTick 4 = .ok (.getfield 62, 3) := by decide +kernel
theorem dX9_passTick_7 : decode cX9_passTick 7 = .ok (.if_icmp .ge 27, 3) := by decide +kernel
theorem dX9_passTick_10 : decode cX9_passTick 10 = .ok (.aload_n 0, 1) := by decide +kernel
theorem dX9_passTick_11 : decode cX9_passTick 11 = .ok (.aload_n 0, 1) := by decide +kernel
theorem dX9_passTick_12 : decode cX9_passTick 12 = .ok (.getfield 11, 3) := by decide +kernel
theorem dX9_passTick_15 : decode cX9_passTick 15 = .ok (.iload_n 1, 1) := by decide +kernel
theorem dX9_passTick_16 : decode cX9_passTick 16 = .ok (.aaload, 1) := by decide +kernel
theorem dX9_passTick_17 : decode cX9_passTick 17 = .ok (.invokevirtual 126, 3) := by decide +kernel
theorem dX9_passTick_20 : decode cX9_passTick 20 = .ok (.ifCond .eq 8, 3) := by decide +kernel
theorem dX9_passTick_23 : decode cX9_passTick 23 = .ok (.aload_n 0, 1) := by decide +kernel
theorem dX9_passTick_24 : decode cX9_passTick 24 = .ok (.iload_n 1, 1) := by decide +kernel
theorem dX9_passTick_25 : decode cX9_passTick 25 = .ok (.invokevirtual 130, 3) := by decide +kernel
theorem dX9_passTick_28 : decode cX9_passTick 28 = .ok (.iinc 1 1, 3) := by decide +kernel
theorem dX9_passTick_31 : decode cX9_passTick 31 = .ok (.goto (-29), 3) := by decide +kernel
theorem dX9_passTick_34 : decode cX9_passTick 34 = .ok (.aload_n 0, 1) := by decide +kernel
theorem dX9_passTick_35 : decode cX9_passTick 35 = .ok (.getfield 25, 3) := by decide +kernel
theorem dX9_passTick_38 : decode cX9_passTick 38 = .ok (.aload_n 0, 1) := by decide +kernel
theorem dX9_passTick_39 : decode cX9_passTick 39 = .ok (.getfield 98, 3) := by decide +kernel
theorem dX9_passTick_42 : decode cX9_passTick 42 = .ok (.aload_n 0, 1) := by decide +kernel
theorem dX9_passTick_43 : decode cX9_passTick 43 = .ok (.getfield 18, 3) := by decide +kernel
theorem dX9_passTick_46 : decode cX9_passTick 46 = .ok (.getfield 134, 3) := by decide +kernel
theorem dX9_passTick_49 : decode cX9_passTick 49 = .ok (.aload_n 0, 1) := by decide +kernel
theorem dX9_passTick_50 : decode cX9_passTick 50 = .ok (.getfield 11, 3) := by decide +kernel
theorem dX9_passTick_53 : decode cX9_passTick 53 = .ok (.invokevirtual 137, 3) := by decide +kernel
theorem dX9_passTick_56 : decode cX9_passTick 56 = .ok (.aload_n 0, 1) := by decide +kernel
theorem dX9_passTick_57 : decode cX9_passTick 57 = .ok (.dup, 1) := by decide +kernel
theorem dX9_passTick_58 : decode cX9_passTick 58 = .ok (.getfield 98, 3) := by decide +kernel
theorem dX9_passTick_61 : decode cX9_passTick 61 = .ok (.iconst 1, 1) := by decide +kernel
theorem dX9_passTick_62 : decode cX9_passTick 62 = .ok (.iadd, 1) := by decide +kernel
theorem dX9_passTick_63 : decode cX9_passTick 63 = .ok (.putfield 98, 3) := by decide +kernel
theorem dX9_passTick_66 : decode cX9_passTick 66 = .ok (.return_, 1) := by decide +kernel
theorem dX9_isTrying_0 : decode cX9_isTrying 0 = .ok (.aload_n 0, 1) := by decide +kernel
theorem dX9_isTrying_1 : decode cX9_isTrying 1 = .ok (.getfield 18, 3) := by decide +kernel
theorem dX9_isTrying_4 : decode cX9_isTrying 4 = .ok (.getfield 58, 3) := by decide +kernel
theorem dX9_isTrying_7 : decode cX9_isTrying 7 = .ok (.ifCond .eq 21, 3) := by decide +kernel
theorem dX9_isTrying_10 : decode cX9_isTrying 10 = .ok (.aload_n 1, 1) := by decide +kernel
theorem dX9_isTrying_11 : decode cX9_isTrying 11 = .ok (.invokevirtual 141, 3) := by decide +kernel
theorem dX9_isTrying_14 : decode cX9_isTrying 14 = .ok (.ifCond .eq 14, 3) := by decide +kernel
theorem dX9_isTrying_17 : decode cX9_isTrying 17 = .ok (.aload_n 1, 1) := by decide +kernel
theorem dX9_isTrying_18 : decode cX9_isTrying 18 = .ok (.invokevirtual 144, 3) := by decide +kernel
theorem dX9_isTrying_21 : decode cX9_isTrying 21 = .ok (.ifCond .ne 7, 3) := by decide +kernel
theorem dX9_isTrying_24 : decode cX9_isTrying 24 = .ok (.iconst 1, 1) := by decide +kernel
theorem dX9_isTrying_25 : decode cX9_isTrying 25 = .ok (.goto 4, 3) := by decide +kernel
theorem dX9_isTrying_28 : decode cX9_isTrying 28 = .ok (.iconst 0, 1) := by decide +kernel
theorem dX9_isTrying_29 : decode cX9_isTrying 29 = .ok (.ireturn, 1) := by decide +kernel
theorem dX9_tryBothRoads_0 : decode cX9_tryBothRoads 0 = .ok (.aload_n 0, 1) := by decide +kernel
theorem dX9_tryBothRoads_1 : decode cX9_tryBothRoads 1 = .ok (.getfield 11, 3) := by decide +kernel
theorem dX9_tryBothRoads_4 : decode cX9_tryBothRoads 4 = .ok (.iload_n 1, 1) := by decide +kernel
theorem dX9_tryBothRoads_5 : decode cX9_tryBothRoads 5 = .ok (.aaload, 1) := by decide +kernel
theorem dX9_tryBothRoads_6 : decode cX9_tryBothRoads 6 = .ok (.astore_n 2, 1) := by decide +kernel
theorem dX9_tryBothRoads_7 : decode cX9_tryBothRoads 7 = .ok (.aload_n 2, 1) := by decide +kernel
theorem dX9_tryBothRoads_8 : decode cX9_tryBothRoads 8 = .ok (.dup, 1) := by decide +kernel
theorem dX9_tryBothRoads_9 : decode cX9_tryBothRoads 9 = .ok (.getfield 147, 3) := by decide +kernel
theorem dX9_tryBothRoads_12 : decode cX9_tryBothRoads 12 = .ok (.iconst 1, 1) := by decide +kernel
theorem dX9_tryBothRoads_13 : decode cX9_tryBothRoads 13 = .ok (.iadd, 1) := by decide +kernel
theorem dX9_tryBothRoads_14 : decode cX9_tryBothRoads 14 = .ok (.putfield 147, 3) := by decide +kernel
theorem dX9_tryBothRoads_17 : decode cX9_tryBothRoads 17 = .ok (.iconst 0, 1) := by decide +kernel
theorem dX9_tryBothRoads_18 : decode cX9_tryBothRoads 18 = .ok (.istore_n 3, 1) := by decide +kernel
theorem dX9_tryBothRoads_19 : decode cX9_tryBothRoads 19 = .ok (.iload_n 3, 1) := by decide +kernel
theorem dX9_tryBothRoads_20 : decode cX9_tryBothRoads 20 = .ok (.iconst 2, 1) := by decide +kernel
theorem dX9_tryBothRoads_21 : decode cX9_tryBothRoads 21 = .ok (.if_icmp .ge 55, 3) := by decide +kernel
theorem dX9_tryBothRoads_24 : decode cX9_tryBothRoads 24 = .ok (.aload_n 2, 1) := by decide +kernel
theorem dX9_tryBothRoads_25 : decode cX9_tryBothRoads 25 = .ok (.getfield 80, 3) := by decide +kernel
theorem dX9_tryBothRoads_28 : decode cX9_tryBothRoads 28 = .ok (.iload_n 3, 1) := by decide +kernel
theorem dX9_tryBothRoads_29 : decode cX9_tryBothRoads 29 = .ok (.aaload, 1) := by decide +kernel
theorem dX9_tryBothRoads_30 : decode cX9_tryBothRoads 30 = .ok (.astore 4, 2) := by decide +kernel
theorem dX9_tryBothRoads_32 : decode cX9_tryBothRoads 32 = .ok (.aload_n 0, 1) := by decide +kernel
theorem dX9_tryBothRoads_33 : decode cX9_tryBothRoads 33 = .ok (.dup, 1) := by decide +kernel
theorem dX9_tryBothRoads_34 : decode cX9_tryBothRoads 34 = .ok (.getfield 150, 3) := by decide +kernel
theorem dX9_tryBothRoads_37 : decode cX9_tryBothRoads 37 = .ok (.iconst 1, 1) := by decide +kernel
theorem dX9_tryBothRoads_38 : decode cX9_tryBothRoads 38 = .ok (.iadd, 1) := by decide +kernel
theorem dX9_tryBothRoads_39 : decode cX9_tryBothRoads 39 = .ok (.putfield 150, 3) := by decide +kernel
theorem dX9_tryBothRoads_42 : decode cX9_tryBothRoads 42 = .ok (.aload 4, 2) := by decide +kernel
theorem dX9_tryBothRoads_44 : decode cX9_tryBothRoads 44 = .ok (.invokevirtual 153, 3) := by decide +kernel
theorem dX9_tryBothRoads_47 : decode cX9_tryBothRoads 47 = .ok (.ifCond .ne 23, 3) := by decide +kernel
theorem dX9_tryBothRoads_50 : decode cX9_tryBothRoads 50 = .ok (.aload_n 0, 1) := by decide +kernel
theorem dX9_tryBothRoads_51 : decode cX9_tryBothRoads 51 = .ok (.getfield 25, 3) := by decide +kernel
theorem dX9_tryBothRoads_54 : decode cX9_tryBothRoads 54 = .ok (.aload_n 0, 1) := by decide +kernel
theorem dX9_tryBothRoads_55 : decode cX9_tryBothRoads 55 = .ok (.getfield 98, 3) := by decide +kernel
theorem dX9_tryBothRoads_58 : decode cX9_tryBothRoads 58 = .ok (.aload 4, 2) := by decide +kernel
theorem dX9_tryBothRoads_60 : decode cX9_tryBothRoads 60 = .ok (.getfield 156, 3) := by decide +kernel
theorem dX9_tryBothRoads_63 : decode cX9_tryBothRoads 63 = .ok (.iadd, 1) := by decide +kernel
theorem dX9_tryBothRoads_64 : decode cX9_tryBothRoads 64 = .ok (.iload_n 1, 1) := by decide +kernel
theorem dX9_tryBothRoads_65 : decode cX9_tryBothRoads 65 = .ok (.iload_n 3, 1) := by decide +kernel
theorem dX9_tryBothRoads_66 : decode cX9_tryBothRoads 66 = .ok (.aload_n 2, 1) := by decide +kernel
theorem dX9_tryBothRoads_67 : decode cX9_tryBothRoads 67 = .ok (.invokevirtual 159, 3) := by decide +kernel
theorem dX9_tryBothRoads_70 : decode cX9_tryBothRoads 70 = .ok (.iinc 3 1, 3) := by decide +kernel
theorem dX9_tryBothRoads_73 : decode cX9_tryBothRoads 73 = .ok (.goto (-54), 3) := by decide +kernel
theorem dX9_tryBothRoads_76 : decode cX9_tryBothRoads 76 = .ok (.return_, 1) := by decide +kernel
theorem dX9_base_0 : decode cX9_base 0 = .ok (.iload_n 1, 1) := by decide +kernel
theorem dX9_base_1 : decode cX9_base 1 = .ok (.invokestatic 70, 3) := by decide +kernel
theorem dX9_base_4 : decode cX9_base 4 = .ok (.ifCond .eq 20, 3) := by decide +kernel
theorem dX9_base_7 : decode cX9_base 7 = .ok (.aload_n 0, 1) := by decide +kernel
theorem dX9_base_8 : decode cX9_base 8 = .ok (.iload_n 2, 1) := by decide +kernel
theorem dX9_base_9 : decode cX9_base 9 = .ok (.invokevirtual 66, 3) := by decide +kernel
theorem dX9_base_12 : decode cX9_base 12 = .ok (.ifCond .eq 12, 3) := by decide +kernel
theorem dX9_base_15 : decode cX9_base 15 = .ok (.iload_n 3, 1) := by decide +kernel
theorem dX9_base_16 : decode cX9_base 16 = .ok (.iconst 0, 1) := by decide +kernel
theorem dX9_base_17 : decode cX9_base 17 = .ok (.iconst 3, 1) := by decide +kernel
theorem dX9_base_18 : decode cX9_base 18 = .ok (.invokestatic 76, 3) := by decide +kernel
theorem dX9_base_21 : decode cX9_base 21 = .ok (.ifCond .ne 5, 3) := by decide +kernel
theorem dX9_base_24 : decode cX9_base 24 = .ok (.iconst (-1), 1) := by decide +kernel
theorem dX9_base_25 : decode cX9_base 25 = .ok (.ireturn, 1) := by decide +kernel
theorem dX9_base_26 : decode cX9_base 26 = .ok (.aload_n 0, 1) := by decide +kernel
theorem dX9_base_27 : decode cX9_base 27 = .ok (.getfield 11, 3) := by decide +kernel
theorem dX9_base_30 : decode cX9_base 30 = .ok (.iload_n 2, 1) := by decide +kernel
theorem dX9_base_31 : decode cX9_base 31 = .ok (.aaload, 1) := by decide +kernel
theorem dX9_base_32 : decode cX9_base 32 = .ok (.getfield 163, 3) := by decide +kernel
theorem dX9_base_35 : decode cX9_base 35 = .ok (.iload_n 1, 1) := by decide +kernel
theorem dX9_base_36 : decode cX9_base 36 = .ok (.aaload, 1) := by decide +kernel
theorem dX9_base_37 : decode cX9_base 37 = .ok (.astore 4, 2) := by decide +kernel
theorem dX9_base_39 : decode cX9_base 39 = .ok (.iload_n 3, 1) := by decide +kernel
theorem dX9_base_40 : decode cX9_base 40 = .ok (.tableswitch 85 0 2 #[28, 47, 66], 28) := by decide +kernel
theorem dX9_base_68 : decode cX9_base 68 = .ok (.aload 4, 2) := by decide +kernel
theorem dX9_base_70 : decode cX9_base 70 = .ok (.getfield 167, 3) := by decide +kernel
theorem dX9_base_73 : decode cX9_base 73 = .ok (.ifCond .le 11, 3) := by decide +kernel
theorem dX9_base_76 : decode cX9_base 76 = .ok (.aload 4, 2) := by decide +kernel
theorem dX9_base_78 : decode cX9_base 78 = .ok (.getfield 172, 3) := by decide +kernel
theorem dX9_base_81 : decode cX9_base 81 = .ok (.goto 5, 3) := by decide +kernel
theorem dX9_base_84 : decode cX9_base 84 = .ok (.bipush (-4), 2) := by decide +kernel
theorem dX9_base_86 : decode cX9_base 86 = .ok (.ireturn, 1) := by decide +kernel
theorem dX9_base_87 : decode cX9_base 87 = .ok (.aload 4, 2) := by decide +kernel
theorem dX9_base_89 : decode cX9_base 89 = .ok (.getfield 167, 3) := by decide +kernel
theorem dX9_base_92 : decode cX9_base 92 = .ok (.ifCond .le 11, 3) := by decide +kernel
theorem dX9_base_95 : decode cX9_base 95 = .ok (.aload 4, 2) := by decide +kernel
theorem dX9_base_97 : decode cX9_base 97 = .ok (.getfield 167, 3) := by decide +kernel
theorem dX9_base_100 : decode cX9_base 100 = .ok (.goto 5, 3) := by decide +kernel
theorem dX9_base_103 : decode cX9_base 103 = .ok (.bipush (-4), 2) := by decide +kernel
theorem dX9_base_105 : decode cX9_base 105 = .ok (.ireturn, 1) := by decide +kernel
theorem dX9_base_106 : decode cX9_base 106 = .ok (.aload 4, 2) := by decide +kernel
theorem dX9_base_108 : decode cX9_base 108 = .ok (.getfield 175, 3) := by decide +kernel
theorem dX9_base_111 : decode cX9_base 111 = .ok (.ifCond .le 11, 3) := by decide +kernel
theorem dX9_base_114 : decode cX9_base 114 = .ok (.aload 4, 2) := by decide +kernel
theorem dX9_base_116 : decode cX9_base 116 = .ok (.getfield 175, 3) := by decide +kernel
theorem dX9_base_119 : decode cX9_base 119 = .ok (.goto 5, 3) := by decide +kernel
theorem dX9_base_122 : decode cX9_base 122 = .ok (.bipush (-4), 2) := by decide +kernel
theorem dX9_base_124 : decode cX9_base 124 = .ok (.ireturn, 1) := by decide +kernel
theorem dX9_base_125 : decode cX9_base 125 = .ok (.aload 4, 2) := by decide +kernel
theorem dX9_base_127 : decode cX9_base 127 = .ok (.invokevirtual 178, 3) := by decide +kernel
theorem dX9_base_130 : decode cX9_base 130 = .ok (.ifCond .le 11, 3) := by decide +kernel
theorem dX9_base_133 : decode cX9_base 133 = .ok (.aload 4, 2) := by decide +kernel
theorem dX9_base_135 : decode cX9_base 135 = .ok (.invokevirtual 178, 3) := by decide +kernel
end
section
theorem dX9_base_138 : decode cX9_base 138 = .ok (.goto 5, 3) := by decide +kernel
theorem dX9_base_141 : decode cX9_base 141 = .ok (.bipush (-4), 2) := by decide +kernel
theorem dX9_base_143 : decode cX9_base 143 = .ok (.ireturn, 1) := by decide +kernel
theorem dX9_about_0 : decode cX9_about 0 = .ok (.aload_n 0, 1) := by decide +kernel
theorem dX9_about_1 : decode cX9_about 1 = .ok (.iload_n 1, 1) := by decide +kernel
theorem dX9_about_2 : decode cX9_about 2 = .ok (.invokevirtual 66, 3) := by decide +kernel
theorem dX9_about_5 : decode cX9_about 5 = .ok (.ifCond .eq 12, 3) := by decide +kernel
theorem dX9_about_8 : decode cX9_about 8 = .ok (.iload_n 2, 1) := by decide +kernel
theorem dX9_about_9 : decode cX9_about 9 = .ok (.iconst 0, 1) := by decide +kernel
theorem dX9_about_10 : decode cX9_about 10 = .ok (.iconst 3, 1) := by decide +kernel
theorem dX9_about_11 : decode cX9_about 11 = .ok (.invokestatic 76, 3) := by decide +kernel
theorem dX9_about_14 : decode cX9_about 14 = .ok (.ifCond .ne 5, 3) := by decide +kernel
theorem dX9_about_17 : decode cX9_about 17 = .ok (.iconst (-1), 1) := by decide +kernel
theorem dX9_about_18 : decode cX9_about 18 = .ok (.ireturn, 1) := by decide +kernel
theorem dX9_about_19 : decode cX9_about 19 = .ok (.aload_n 0, 1) := by decide +kernel
theorem dX9_about_20 : decode cX9_about 20 = .ok (.getfield 11, 3) := by decide +kernel
theorem dX9_about_23 : decode cX9_about 23 = .ok (.iload_n 1, 1) := by decide +kernel
theorem dX9_about_24 : decode cX9_about 24 = .ok (.aaload, 1) := by decide +kernel
theorem dX9_about_25 : decode cX9_about 25 = .ok (.astore_n 3, 1) := by decide +kernel
theorem dX9_about_26 : decode cX9_about 26 = .ok (.iload_n 2, 1) := by decide +kernel
theorem dX9_about_27 : decode cX9_about 27 = .ok (.tableswitch 50 0 2 #[25, 30, 37], 25) := by decide +kernel
theorem dX9_about_52 : decode cX9_about 52 = .ok (.aload_n 3, 1) := by decide +kernel
theorem dX9_about_53 : decode cX9_about 53 = .ok (.getfield 182, 3) := by decide +kernel
theorem dX9_about_56 : decode cX9_about 56 = .ok (.ireturn, 1) := by decide +kernel
theorem dX9_about_57 : decode cX9_about 57 = .ok (.aload_n 3, 1) := by decide +kernel
theorem dX9_about_58 : decode cX9_about 58 = .ok (.getfield 147, 3) := by decide +kernel
theorem dX9_about_61 : decode cX9_about 61 = .ok (.iconst 2, 1) := by decide +kernel
theorem dX9_about_62 : decode cX9_about 62 = .ok (.imul, 1) := by decide +kernel
theorem dX9_about_63 : decode cX9_about 63 = .ok (.ireturn, 1) := by decide +kernel
theorem dX9_about_64 : decode cX9_about 64 = .ok (.aload_n 3, 1) := by decide +kernel
theorem dX9_about_65 : decode cX9_about 65 = .ok (.invokevirtual 144, 3) := by decide +kernel
theorem dX9_about_68 : decode cX9_about 68 = .ok (.ifCond .eq 7, 3) := by decide +kernel
theorem dX9_about_71 : decode cX9_about 71 = .ok (.iconst 1, 1) := by decide +kernel
theorem dX9_about_72 : decode cX9_about 72 = .ok (.goto 4, 3) := by decide +kernel
theorem dX9_about_75 : decode cX9_about 75 = .ok (.iconst 0, 1) := by decide +kernel
theorem dX9_about_76 : decode cX9_about 76 = .ok (.ireturn, 1) := by decide +kernel
theorem dX9_about_77 : decode cX9_about 77 = .ok (.aload_n 3, 1) := by decide +kernel
theorem dX9_about_78 : decode cX9_about 78 = .ok (.invokevirtual 185, 3) := by decide +kernel
theorem dX9_about_81 : decode cX9_about 81 = .ok (.ireturn, 1) := by decide +kernel
theorem dX9_answers_0 : decode cX9_answers 0 = .ok (.aload_n 0, 1) := by decide +kernel
theorem dX9_answers_1 : decode cX9_answers 1 = .ok (.invokevirtual 188, 3) := by decide +kernel
theorem dX9_answers_4 : decode cX9_answers 4 = .ok (.ifCond .eq 10, 3) := by decide +kernel
theorem dX9_answers_7 : decode cX9_answers 7 = .ok (.aload_n 0, 1) := by decide +kernel
theorem dX9_answers_8 : decode cX9_answers 8 = .ok (.invokevirtual 191, 3) := by decide +kernel
theorem dX9_answers_11 : decode cX9_answers 11 = .ok (.goto 5, 3) := by decide +kernel
theorem dX9_answers_14 : decode cX9_answers 14 = .ok (.bipush (-2), 2) := by decide +kernel
theorem dX9_answers_16 : decode cX9_answers 16 = .ok (.ireturn, 1) := by decide +kernel
theorem dX9_share_0 : decode cX9_share 0 = .ok (.iload_n 1, 1) := by decide +kernel
theorem dX9_share_1 : decode cX9_share 1 = .ok (.iconst 0, 1) := by decide +kernel
theorem dX9_share_2 : decode cX9_share 2 = .ok (.bipush 7, 2) := by decide +kernel
theorem dX9_share_4 : decode cX9_share 4 = .ok (.invokestatic 76, 3) := by decide +kernel
theorem dX9_share_7 : decode cX9_share 7 = .ok (.ifCond .ne 5, 3) := by decide +kernel
theorem dX9_share_10 : decode cX9_share 10 = .ok (.iconst (-1), 1) := by decide +kernel
theorem dX9_share_11 : decode cX9_share 11 = .ok (.ireturn, 1) := by decide +kernel
theorem dX9_share_12 : decode cX9_share 12 = .ok (.aload_n 0, 1) := by decide +kernel
theorem dX9_share_13 : decode cX9_share 13 = .ok (.iconst 0, 1) := by decide +kernel
theorem dX9_share_14 : decode cX9_share 14 = .ok (.invokevirtual 194, 3) := by decide +kernel
theorem dX9_share_17 : decode cX9_share 17 = .ok (.ifCond .ne 6, 3) := by decide +kernel
theorem dX9_share_20 : decode cX9_share 20 = .ok (.bipush (-2), 2) := by decide +kernel
theorem dX9_share_22 : decode cX9_share 22 = .ok (.ireturn, 1) := by decide +kernel
theorem dX9_share_23 : decode cX9_share 23 = .ok (.iconst 0, 1) := by decide +kernel
theorem dX9_share_24 : decode cX9_share 24 = .ok (.istore_n 2, 1) := by decide +kernel
theorem dX9_share_25 : decode cX9_share 25 = .ok (.iconst 0, 1) := by decide +kernel
theorem dX9_share_26 : decode cX9_share 26 = .ok (.istore_n 3, 1) := by decide +kernel
theorem dX9_share_27 : decode cX9_share 27 = .ok (.iload_n 3, 1) := by decide +kernel
theorem dX9_share_28 : decode cX9_share 28 = .ok (.aload_n 0, 1) := by decide +kernel
theorem dX9_share_29 : decode cX9_share 29 = .ok (.getfield 62, 3) := by decide +kernel
theorem dX9_share_32 : decode cX9_share 32 = .ok (.if_icmp .ge 25, 3) := by decide +kernel
theorem dX9_share_35 : decode cX9_share 35 = .ok (.aload_n 0, 1) := by decide +kernel
theorem dX9_share_36 : decode cX9_share 36 = .ok (.getfield 11, 3) := by decide +kernel
theorem dX9_share_39 : decode cX9_share 39 = .ok (.iload_n 3, 1) := by decide +kernel
theorem dX9_share_40 : decode cX9_share 40 = .ok (.aaload, 1) := by decide +kernel
theorem dX9_share_41 : decode cX9_share 41 = .ok (.invokevirtual 185, 3) := by decide +kernel
theorem dX9_share_44 : decode cX9_share 44 = .ok (.iload_n 1, 1) := by decide +kernel
theorem dX9_share_45 : decode cX9_share 45 = .ok (.if_icmp .ne 6, 3) := by decide +kernel
theorem dX9_share_48 : decode cX9_share 48 = .ok (.iinc 2 1, 3) := by decide +kernel
theorem dX9_share_51 : decode cX9_share 51 = .ok (.iinc 3 1, 3) := by decide +kernel
theorem dX9_share_54 : decode cX9_share 54 = .ok (.goto (-27), 3) := by decide +kernel
theorem dX9_share_57 : decode cX9_share 57 = .ok (.iload_n 2, 1) := by decide +kernel
theorem dX9_share_58 : decode cX9_share 58 = .ok (.ireturn, 1) := by decide +kernel
theorem dX9_number_0 : decode cX9_number 0 = .ok (.iload_n 1, 1) := by decide +kernel
theorem dX9_number_1 : decode cX9_number 1 = .ok (.iconst 0, 1) := by decide +kernel
theorem dX9_number_2 : decode cX9_number 2 = .ok (.iconst 2, 1) := by decide +kernel
theorem dX9_number_3 : decode cX9_number 3 = .ok (.invokestatic 76, 3) := by decide +kernel
theorem dX9_number_6 : decode cX9_number 6 = .ok (.ifCond .ne 5, 3) := by decide +kernel
theorem dX9_number_9 : decode cX9_number 9 = .ok (.iconst (-1), 1) := by decide +kernel
theorem dX9_number_10 : decode cX9_number 10 = .ok (.ireturn, 1) := by decide +kernel
theorem dX9_number_11 : decode cX9_number 11 = .ok (.aload_n 0, 1) := by decide +kernel
theorem dX9_number_12 : decode cX9_number 12 = .ok (.iconst 1, 1) := by decide +kernel
theorem dX9_number_13 : decode cX9_number 13 = .ok (.invokevirtual 194, 3) := by decide +kernel
theorem dX9_number_16 : decode cX9_number 16 = .ok (.ifCond .eq 10, 3) := by decide +kernel
theorem dX9_number_19 : decode cX9_number 19 = .ok (.aload_n 0, 1) := by decide +kernel
theorem dX9_number_20 : decode cX9_number 20 = .ok (.invokevirtual 191, 3) := by decide +kernel
theorem dX9_number_23 : decode cX9_number 23 = .ok (.ifCond .ne 6, 3) := by decide +kernel
theorem dX9_number_26 : decode cX9_number 26 = .ok (.bipush (-2), 2) := by decide +kernel
theorem dX9_number_28 : decode cX9_number 28 = .ok (.ireturn, 1) := by decide +kernel
theorem dX9_number_29 : decode cX9_number 29 = .ok (.aload_n 0, 1) := by decide +kernel
theorem dX9_number_30 : decode cX9_number 30 = .ok (.getfield 46, 3) := by decide +kernel
theorem dX9_number_33 : decode cX9_number 33 = .ok (.aload_n 0, 1) := by decide +kernel
theorem dX9_number_34 : decode cX9_number 34 = .ok (.getfield 11, 3) := by decide +kernel
theorem dX9_number_37 : decode cX9_number 37 = .ok (.aload_n 0, 1) := by decide +kernel
theorem dX9_number_38 : decode cX9_number 38 = .ok (.getfield 62, 3) := by decide +kernel
theorem dX9_number_41 : decode cX9_number 41 = .ok (.invokevirtual 197, 3) := by decide +kernel
theorem dX9_number_44 : decode cX9_number 44 = .ok (.iload_n 1, 1) := by decide +kernel
theorem dX9_number_45 : decode cX9_number 45 = .ok (.ifCond .ne 11, 3) := by decide +kernel
theorem dX9_number_48 : decode cX9_number 48 = .ok (.aload_n 0, 1) := by decide +kernel
theorem dX9_number_49 : decode cX9_number 49 = .ok (.getfield 46, 3) := by decide +kernel
theorem dX9_number_52 : decode cX9_number 52 = .ok (.getfield 201, 3) := by decide +kernel
theorem dX9_number_55 : decode cX9_number 55 = .ok (.ireturn, 1) := by decide +kernel
theorem dX9_number_56 : decode cX9_number 56 = .ok (.iload_n 1, 1) := by decide +kernel
theorem dX9_number_57 : decode cX9_number 57 = .ok (.iconst 1, 1) := by decide +kernel
theorem dX9_number_58 : decode cX9_number 58 = .ok (.if_icmp .ne 16, 3) := by decide +kernel
theorem dX9_number_61 : decode cX9_number 61 = .ok (.aload_n 0, 1) := by decide +kernel
theorem dX9_number_62 : decode cX9_number 62 = .ok (.getfield 46, 3) := by decide +kernel
theorem dX9_number_65 : decode cX9_number 65 = .ok (.getfield 204, 3) := by decide +kernel
theorem dX9_number_68 : decode cX9_number 68 = .ok (.invokestatic 207, 3) := by decide +kernel
theorem dX9_number_71 : decode cX9_number 71 = .ok (.goto 10, 3) := by decide +kernel
theorem dX9_number_74 : decode cX9_number 74 = .ok (.aload_n 0, 1) := by decide +kernel
theorem dX9_number_75 : decode cX9_number 75 = .ok (.getfield 46, 3) := by decide +kernel
theorem dX9_number_78 : decode cX9_number 78 = .ok (.getfield 204, 3) := by decide +kernel
theorem dX9_number_81 : decode cX9_number 81 = .ok (.ireturn, 1) := by decide +kernel
theorem dX9_order_0 : decode cX9_order 0 = .ok (.iload_n 1, 1) := by decide +kernel
theorem dX9_order_1 : decode cX9_order 1 = .ok (.iconst 0, 1) := by decide +kernel
theorem dX9_order_2 : decode cX9_order 2 = .ok (.iconst 1, 1) := by decide +kernel
theorem dX9_order_3 : decode cX9_order 3 = .ok (.invokestatic 76, 3) := by decide +kernel
theorem dX9_order_6 : decode cX9_order 6 = .ok (.ifCond .ne 5, 3) := by decide +kernel
theorem dX9_order_9 : decode cX9_order 9 = .ok (.iconst (-1), 1) := by decide +kernel
theorem dX9_order_10 : decode cX9_order 10 = .ok (.ireturn, 1) := by decide +kernel
theorem dX9_order_11 : decode cX9_order 11 = .ok (.aload_n 0, 1) := by decide +kernel
theorem dX9_order_12 : decode cX9_order 12 = .ok (.iconst 2, 1) := by decide +kernel
theorem dX9_order_13 : decode cX9_order 13 = .ok (.invokevirtual 194, 3) := by decide +kernel
theorem dX9_order_16 : decode cX9_order 16 = .ok (.ifCond .eq 10, 3) := by decide +kernel
theorem dX9_order_19 : decode cX9_order 19 = .ok (.aload_n 0, 1) := by decide +kernel
theorem dX9_order_20 : decode cX9_order 20 = .ok (.invokevirtual 191, 3) := by decide +kernel
theorem dX9_order_23 : decode cX9_order 23 = .ok (.ifCond .ne 6, 3) := by decide +kernel
theorem dX9_order_26 : decode cX9_order 26 = .ok (.bipush (-2), 2) := by decide +kernel
theorem dX9_order_28 : decode cX9_order 28 = .ok (.ireturn, 1) := by decide +kernel
theorem dX9_order_29 : decode cX9_order 29 = .ok (.aload_n 0, 1) := by decide +kernel
theorem dX9_order_30 : decode cX9_order 30 = .ok (.getfield 53, 3) := by decide +kernel
theorem dX9_order_33 : decode cX9_order 33 = .ok (.aload_n 0, 1) := by decide +kernel
theorem dX9_order_34 : decode cX9_order 34 = .ok (.getfield 11, 3) := by decide +kernel
theorem dX9_order_37 : decode cX9_order 37 = .ok (.aload_n 0, 1) := by decide +kernel
theorem dX9_order_38 : decode cX9_order 38 = .ok (.getfield 62, 3) := by decide +kernel
theorem dX9_order_41 : decode cX9_order 41 = .ok (.aload_n 0, 1) := by decide +kernel
theorem dX9_order_42 : decode cX9_order 42 = .ok (.getfield 18, 3) := by decide +kernel
theorem dX9_order_45 : decode cX9_order 45 = .ok (.getfield 213, 3) := by decide +kernel
theorem dX9_order_48 : decode cX9_order 48 = .ok (.invokevirtual 216, 3) := by decide +kernel
theorem dX9_order_51 : decode cX9_order 51 = .ok (.iload_n 1, 1) := by decide +kernel
theorem dX9_order_52 : decode cX9_order 52 = .ok (.ifCond .ne 13, 3) := by decide +kernel
theorem dX9_order_55 : decode cX9_order 55 = .ok (.aload_n 0, 1) := by decide +kernel
theorem dX9_order_56 : decode cX9_order 56 = .ok (.getfield 53, 3) := by decide +kernel
theorem dX9_order_59 : decode cX9_order 59 = .ok (.getfield 220, 3) := by decide +kernel
theorem dX9_order_62 : decode cX9_order 62 = .ok (.goto 10, 3) := by decide +kernel
theorem dX9_order_65 : decode cX9_order 65 = .ok (.aload_n 0, 1) := by decide +kernel
theorem dX9_order_66 : decode cX9_order 66 = .ok (.getfield 53, 3) := by decide +kernel
theorem dX9_order_69 : decode cX9_order 69 = .ok (.getfield 223, 3) := by decide +kernel
theorem dX9_order_72 : decode cX9_order 72 = .ok (.ireturn, 1) := by decide +kernel
theorem dX9_isShown_0 : decode cX9_isShown 0 = .ok (.aload_n 0, 1) := by decide +kernel
theorem dX9_isShown_1 : decode cX9_isShown 1 = .ok (.getfield 18, 3) := by decide +kernel
theorem dX9_isShown_4 : decode cX9_isShown 4 = .ok (.getfield 58, 3) := by decide +kernel
theorem dX9_isShown_7 : decode cX9_isShown 7 = .ok (.ifCond .eq 28, 3) := by decide +kernel
theorem dX9_isShown_10 : decode cX9_isShown 10 = .ok (.aload_n 0, 1) := by decide +kernel
theorem dX9_isShown_11 : decode cX9_isShown 11 = .ok (.getfield 88, 3) := by decide +kernel
theorem dX9_isShown_14 : decode cX9_isShown 14 = .ok (.ifCond .eq 17, 3) := by decide +kernel
theorem dX9_isShown_17 : decode cX9_isShown 17 = .ok (.aload_n 0, 1) := by decide +kernel
theorem dX9_isShown_18 : decode cX9_isShown 18 = .ok (.getfield 98, 3) := by decide +kernel
theorem dX9_isShown_21 : decode cX9_isShown 21 = .ok (.aload_n 0, 1) := by decide +kernel
theorem dX9_isShown_22 : decode cX9_isShown 22 = .ok (.getfield 18, 3) := by decide +kernel
theorem dX9_isShown_25 : decode cX9_isShown 25 = .ok (.getfield 134, 3) := by decide +kernel
theorem dX9_isShown_28 : decode cX9_isShown 28 = .ok (.if_icmp .lt 7, 3) := by decide +kernel
theorem dX9_isShown_31 : decode cX9_isShown 31 = .ok (.iconst 1, 1) := by decide +kernel
theorem dX9_isShown_32 : decode cX9_isShown 32 = .ok (.goto 4, 3) := by decide +kernel
theorem dX9_isShown_35 : decode cX9_isShown 35 = .ok (.iconst 0, 1) := by decide +kernel
theorem dX9_isShown_36 : decode cX9_isShown 36 = .ok (.ireturn, 1) := by decide +kernel
theorem dX9_areResultsShown_0 : decode cX9_areResultsShown 0 = .ok (.aload_n 0, 1) := by decide +kernel
theorem dX9_areResultsShown_1 : decode cX9_areResultsShown 1 = .ok (.invokevirtual 188, 3) := by decide +kernel
theorem dX9_areResultsShown_4 : decode cX9_areResultsShown 4 = .ok (.ifCond .eq 29, 3) := by decide +kernel
theorem dX9_areResultsShown_7 : decode cX9_areResultsShown 7 = .ok (.aload_n 0, 1) := by decide +kernel
theorem dX9_areResultsShown_8 : decode cX9_areResultsShown 8 = .ok (.getfield 18, 3) := by decide +kernel
theorem dX9_areResultsShown_11 : decode cX9_areResultsShown 11 = .ok (.getfield 226, 3) := by decide +kernel
theorem dX9_areResultsShown_14 : decode cX9_areResultsShown 14 = .ok (.iload_n 1, 1) := by decide +kernel
theorem dX9_areResultsShown_15 : decode cX9_areResultsShown 15 = .ok (.if_icmp .ne 18, 3) := by decide +kernel
theorem dX9_areResultsShown_18 : decode cX9_areResultsShown 18 = .ok (.aload_n 0, 1) := by decide +kernel
theorem dX9_areResultsShown_19 : decode cX9_areResultsShown 19 = .ok (.invokevirtual 191, 3) := by decide +kernel
theorem dX9_areResultsShown_22 : decode cX9_areResultsShown 22 = .ok (.aload_n 0, 1) := by decide +kernel
theorem dX9_areResultsShown_23 : decode cX9_areResultsShown 23 = .ok (.getfield 91, 3) := by decide +kernel
theorem dX9_areResultsShown_26 : decode cX9_areResultsShown 26 = .ok (.if_icmp .lt 7, 3) := by decide +kernel
theorem dX9_areResultsShown_29 : decode cX9_areResultsShown 29 = .ok (.iconst 1, 1) := by decide +kernel
theorem dX9_areResultsShown_30 : decode cX9_areResultsShown 30 = .ok (.goto 4, 3) := by decide +kernel
theorem dX9_areResultsShown_33 : decode cX9_areResultsShown 33 = .ok (.iconst 0, 1) := by decide +kernel
theorem dX9_areResultsShown_34 : decode cX9_areResultsShown 34 = .ok (.ireturn, 1) := by decide +kernel
theorem dX9_countAnswered_0 : decode cX9_countAnswered 0 = .ok (.iconst 0, 1) := by decide +kernel
theorem dX9_countAnswered_1 : decode cX9_countAnswered 1 = .ok (.istore_n 1, 1) := by decide +kernel
theorem dX9_countAnswered_2 : decode cX9_countAnswered 2 = .ok (.iconst 0, 1) := by decide +kernel
theorem dX9_countAnswered_3 : decode cX9_countAnswered 3 = .ok (.istore_n 2, 1) := by decide +kernel
theorem dX9_countAnswered_4 : decode cX9_countAnswered 4 = .ok (.iload_n 2, 1) := by decide +kernel
theorem dX9_countAnswered_5 : decode cX9_countAnswered 5 = .ok (.aload_n 0, 1) := by decide +kernel
theorem dX9_countAnswered_6 : decode cX9_countAnswered 6 = .ok (.getfield 62, 3) := by decide +kernel
theorem dX9_countAnswered_9 : decode cX9_countAnswered 9 = .ok (.if_icmp .ge 26, 3) := by decide +kernel
theorem dX9_countAnswered_12 : decode cX9_countAnswered 12 = .ok (.aload_n 0, 1) := by decide +kernel
theorem dX9_countAnswered_13 : decode cX9_countAnswered 13 = .ok (.getfield 11, 3) := by decide +kernel
theorem dX9_countAnswered_16 : decode cX9_countAnswered 16 = .ok (.iload_n 2, 1) := by decide +kernel
theorem dX9_countAnswered_17 : decode cX9_countAnswered 17 = .ok (.aaload, 1) := by decide +kernel
theorem dX9_countAnswered_18 : decode cX9_countAnswered 18 = .ok (.invokevirtual 185, 3) := by decide +kernel
theorem dX9_countAnswered_21 : decode cX9_countAnswered 21 = .ok (.bipush (-4), 2) := by decide +kernel
theorem dX9_countAnswered_23 : decode cX9_countAnswered 23 = .ok (.if_icmp .eq 6, 3) := by decide +kernel
theorem dX9_countAnswered_26 : decode cX9_countAnswered 26 = .ok (.iinc 1 1, 3) := by decide +kernel
theorem dX9_countAnswered_29 : decode cX9_countAnswered 29 = .ok (.iinc 2 1, 3) := by decide +kernel
theorem dX9_countAnswered_32 : decode cX9_countAnswered 32 = .ok (.goto (-28), 3) := by decide +kernel
theorem dX9_countAnswered_35 : decode cX9_countAnswered 35 = .ok (.iload_n 1, 1) := by decide +kernel
theorem dX9_countAnswered_36 : decode cX9_countAnswered 36 = .ok (.ireturn, 1) := by decide +kernel
theorem dX9_close_0 : decode cX9_close 0 = .ok (.aload_n 0, 1) := by decide +kernel
theorem dX9_close_1 : decode cX9_close 1 = .ok (.getfield 18, 3) := by decide +kernel
theorem dX9_close_4 : decode cX9_close 4 = .ok (.getfield 58, 3) := by decide +kernel
theorem dX9_close_7 : decode cX9_close 7 = .ok (.ifCond .ne 6, 3) := by decide +kernel
theorem dX9_close_10 : decode cX9_close 10 = .ok (.bipush (-2), 2) := by decide +kernel
theorem dX9_close_12 : decode cX9_close 12 = .ok (.ireturn, 1) := by decide +kernel
theorem dX9_close_13 : decode cX9_close 13 = .ok (.aload_n 0, 1) := by decide +kernel
theorem dX9_close_14 : decode cX9_close 14 = .ok (.getfield 18, 3) := by decide +kernel
theorem dX9_close_17 : decode cX9_close 17 = .ok (.iload_n 1, 1) := by decide +kernel
theorem dX9_close_18 : decode cX9_close 18 = .ok (.invokevirtual 109, 3) := by decide +kernel
theorem dX9_close_21 : decode cX9_close 21 = .ok (.ifCond .ne 5, 3) := by decide +kernel
theorem dX9_close_24 : decode cX9_close 24 = .ok (.iconst (-1), 1) := by decide +kernel
theorem dX9_close_25 : decode cX9_close 25 = .ok (.ireturn, 1) := by decide +kernel
theorem dX9_close_26 : decode cX9_close 26 = .ok (.aload_n 0, 1) := by decide +kernel
theorem dX9_close_27 : decode cX9_close 27 = .ok (.getfield 98, 3) := by decide +kernel
theorem dX9_close_30 : decode cX9_close 30 = .ok (.aload_n 0, 1) := by decide +kernel
theorem dX9_close_31 : decode cX9_close 31 = .ok (.getfield 18, 3) := by decide +kernel
theorem dX9_close_34 : decode cX9_close 34 = .ok (.getfield 134, 3) := by decide +kernel
theorem dX9_close_37 : decode cX9_close 37 = .ok (.if_icmp .ge 6, 3) := by decide +kernel
theorem dX9_close_40 : decode cX9_close 40 = .ok (.bipush (-2), 2) := by decide +kernel
theorem dX9_close_42 : decode cX9_close 42 = .ok (.ireturn, 1) := by decide +kernel
theorem dX9_close_43 : decode cX9_close 43 = .ok (.aload_n 0, 1) := by decide +kernel
theorem dX9_close_44 : decode cX9_close 44 = .ok (.getfield 32, 3) := by decide +kernel
theorem dX9_close_47 : decode cX9_close 47 = .ok (.invokevirtual 229, 3) := by decide +kernel
theorem dX9_close_50 : decode cX9_close 50 = .ok (.ifCond .eq 6, 3) := by decide +kernel
theorem dX9_close_53 : decode cX9_close 53 = .ok (.bipush (-3), 2) := by decide +kernel
theorem dX9_close_55 : decode cX9_close 55 = .ok (.ireturn, 1) := by decide +kernel
theorem dX9_close_56 : decode cX9_close 56 = .ok (.aload_n 0, 1) := by decide +kernel
theorem dX9_close_57 : decode cX9_close 57 = .ok (.getfield 18, 3) := by decide +kernel
theorem dX9_close_60 : decode cX9_close 60 = .ok (.iconst 0, 1) := by decide +kernel
theorem dX9_close_61 : decode cX9_close 61 = .ok (.putfield 58, 3) := by decide +kernel
theorem dX9_close_64 : decode cX9_close 64 = .ok (.aload_n 0, 1) := by decide +kernel
theorem dX9_close_65 : decode cX9_close 65 = .ok (.getfield 25, 3) := by decide +kernel
theorem dX9_close_68 : decode cX9_close 68 = .ok (.iconst 0, 1) := by decide +kernel
theorem dX9_close_69 : decode cX9_close 69 = .ok (.putfield 123, 3) := by decide +kernel
theorem dX9_close_72 : decode cX9_close 72 = .ok (.aload_n 0, 1) := by decide +kernel
theorem dX9_close_73 : decode cX9_close 73 = .ok (.getfield 32, 3) := by decide +kernel
theorem dX9_close_76 : decode cX9_close 76 = .ok (.aload_n 0, 1) := by decide +kernel
theorem dX9_close_77 : decode cX9_close 77 = .ok (.getfield 11, 3) := by decide +kernel
theorem dX9_close_80 : decode cX9_close 80 = .ok (.aload_n 0, 1) := by decide +kernel
theorem dX9_close_81 : decode cX9_close 81 = .ok (.getfield 62, 3) := by decide +kernel
theorem dX9_close_84 : decode cX9_close 84 = .ok (.iload_n 1, 1) := by decide +kernel
theorem dX9_close_85 : decode cX9_close 85 = .ok (.invokevirtual 232, 3) := by decide +kernel
theorem dX9_close_88 : decode cX9_close 88 = .ok (.ireturn, 1) := by decide +kernel
theorem dX9_book_0 : decode cX9_book 0 = .ok (.iload_n 1, 1) := by decide +kernel
theorem dX9_book_1 : decode cX9_book 1 = .ok (.ifCond .lt 22, 3) := by decide +kernel
theorem dX9_book_4 : decode cX9_book 4 = .ok (.iload_n 1, 1) := by decide +kernel
theorem dX9_book_5 : decode cX9_book 5 = .ok (.aload_n 0, 1) := by decide +kernel
theorem dX9_book_6 : decode cX9_book 6 = .ok (.getfield 32, 3) := by decide +kernel
theorem dX9_book_9 : decode cX9_book 9 = .ok (.getfield 236, 3) := by decide +kernel
theorem dX9_book_12 : decode cX9_book 12 = .ok (.if_icmp .ge 11, 3) := by decide +kernel
theorem dX9_book_15 : decode cX9_book 15 = .ok (.aload_n 0, 1) := by decide +kernel
theorem dX9_book_16 : decode cX9_book 16 = .ok (.iload_n 2, 1) := by decide +kernel
theorem dX9_book_17 : decode cX9_book 17 = .ok (.invokevirtual 66, 3) := by decide +kernel
theorem dX9_book_20 : decode cX9_book 20 = .ok (.ifCond .ne 6, 3) := by decide +kernel
theorem dX9_book_23 : decode cX9_book 23 = .ok (.bipush (-9), 2) := by decide +kernel
theorem dX9_book_25 : decode cX9_book 25 = .ok (.ireturn, 1) := by decide +kernel
theorem dX9_book_26 : decode cX9_book 26 = .ok (.aload_n 0, 1) := by decide +kernel
theorem dX9_book_27 : decode cX9_book 27 = .ok (.getfield 32, 3) := by decide +kernel
theorem dX9_book_30 : decode cX9_book 30 = .ok (.getfield 239, 3) := by decide +kernel
theorem dX9_book_33 : decode cX9_book 33 = .ok (.iload_n 1, 1) := by decide +kernel
theorem dX9_book_34 : decode cX9_book 34 = .ok (.aaload, 1) := by decide +kernel
theorem dX9_book_35 : decode cX9_book 35 = .ok (.iload_n 2, 1) := by decide +kernel
theorem dX9_book_36 : decode cX9_book 36 = .ok (.iaload, 1) := by decide +kernel
theorem dX9_book_37 : decode cX9_book 37 = .ok (.ireturn, 1) := by decide +kernel
theorem dX9_marks_0 : decode cX9_marks 0 = .ok (.aload_n 0, 1) := by decide +kernel
theorem dX9_marks_1 : decode cX9_marks 1 = .ok (.iload_n 1, 1) := by decide +kernel
theorem dX9_marks_2 : decode cX9_marks 2 = .ok (.invokevirtual 66, 3) := by decide +kernel
theorem dX9_marks_5 : decode cX9_marks 5 = .ok (.ifCond .eq 15, 3) := by decide +kernel
theorem dX9_marks_8 : decode cX9_marks 8 = .ok (.aload_n 0, 1) := by decide +kernel
theorem dX9_marks_9 : decode cX9_marks 9 = .ok (.getfield 11, 3) := by decide +kernel
theorem dX9_marks_12 : decode cX9_marks 12 = .ok (.iload_n 1, 1) := by decide +kernel
theorem dX9_marks_13 : decode cX9_marks 13 = .ok (.aaload, 1) := by decide +kernel
theorem dX9_marks_14 : decode cX9_marks 14 = .ok (.getfield 243, 3) := by decide +kernel
theorem dX9_marks_17 : decode cX9_marks 17 = .ok (.goto 4, 3) := by decide +kernel
theorem dX9_marks_20 : decode cX9_marks 20 = .ok (.iconst (-1), 1) := by decide +kernel
theorem dX9_marks_21 : decode cX9_marks 21 = .ok (.ireturn, 1) := by decide +kernel
theorem dX9_teams_0 : decode cX9_teams 0 = .ok (.iload_n 2, 1) := by decide +kernel
theorem dX9_teams_1 : decode cX9_teams 1 = .ok (.iconst 0, 1) := by decide +kernel
theorem dX9_teams_2 : decode cX9_teams 2 = .ok (.iconst 1, 1) := by decide +kernel
theorem dX9_teams_3 : decode cX9_teams 3 = .ok (.invokestatic 76, 3) := by decide +kernel
theorem dX9_teams_6 : decode cX9_teams 6 = .ok (.ifCond .eq 11, 3) := by decide +kernel
theorem dX9_teams_9 : decode cX9_teams 9 = .ok (.aload_n 0, 1) := by decide +kernel
theorem dX9_teams_10 : decode cX9_teams 10 = .ok (.iload_n 1, 1) := by decide +kernel
theorem dX9_teams_11 : decode cX9_teams 11 = .ok (.invokevirtual 246, 3) := by decide +kernel
theorem dX9_teams_14 : decode cX9_teams 14 = .ok (.ifCond .ne 5, 3) := by decide +kernel
theorem dX9_teams_17 : decode cX9_teams 17 = .ok (.iconst (-1), 1) := by decide +kernel
theorem dX9_teams_18 : decode cX9_teams 18 = .ok (.ireturn, 1) := by decide +kernel
theorem dX9_teams_19 : decode cX9_teams 19 = .ok (.aload_n 0, 1) := by decide +kernel
theorem dX9_teams_20 : decode cX9_teams 20 = .ok (.iload_n 1, 1) := by decide +kernel
theorem dX9_teams_21 : decode cX9_teams 21 = .ok (.invokevirtual 249, 3) := by decide +kernel
theorem dX9_teams_24 : decode cX9_teams 24 = .ok (.istore_n 3, 1) := by decide +kernel
theorem dX9_teams_25 : decode cX9_teams 25 = .ok (.iload_n 2, 1) := by decide +kernel
theorem dX9_teams_26 : decode cX9_teams 26 = .ok (.ifCond .ne 7, 3) := by decide +kernel
theorem dX9_teams_29 : decode cX9_teams 29 = .ok (.iload_n 3, 1) := by decide +kernel
theorem dX9_teams_30 : decode cX9_teams 30 = .ok (.goto 9, 3) := by decide +kernel
theorem dX9_teams_33 : decode cX9_teams 33 = .ok (.aload_n 0, 1) := by decide +kernel
theorem dX9_teams_34 : decode cX9_teams 34 = .ok (.iload_n 3, 1) := by decide +kernel
theorem dX9_teams_35 : decode cX9_teams 35 = .ok (.iload_n 1, 1) := by decide +kernel
theorem dX9_teams_36 : decode cX9_teams 36 = .ok (.invokevirtual 252, 3) := by decide +kernel
theorem dX9_teams_39 : decode cX9_teams 39 = .ok (.ireturn, 1) := by decide +kernel
theorem dX9_canBeTeams_0 : decode cX9_canBeTeams 0 = .ok (.iconst 1, 1) := by decide +kernel
theorem dX9_canBeTeams_1 : decode cX9_canBeTeams 1 = .ok (.aload_n 0, 1) := by decide +kernel
theorem dX9_canBeTeams_2 : decode cX9_canBeTeams 2 = .ok (.getfield 62, 3) := by decide +kernel
theorem dX9_canBeTeams_5 : decode cX9_canBeTeams 5 = .ok (.ishl, 1) := by decide +kernel
theorem dX9_canBeTeams_6 : decode cX9_canBeTeams 6 = .ok (.iconst 1, 1) := by decide +kernel
theorem dX9_canBeTeams_7 : decode cX9_canBeTeams 7 = .ok (.isub, 1) := by decide +kernel
theorem dX9_canBeTeams_8 : decode cX9_canBeTeams 8 = .ok (.istore_n 2, 1) := by decide +kernel
theorem dX9_canBeTeams_9 : decode cX9_canBeTeams 9 = .ok (.iload_n 1, 1) := by decide +kernel
theorem dX9_canBeTeams_10 : decode cX9_canBeTeams 10 = .ok (.iload_n 2, 1) := by decide +kernel
theorem dX9_canBeTeams_11 : decode cX9_canBeTeams 11 = .ok (.iconst (-1), 1) := by decide +kernel
theorem dX9_canBeTeams_12 : decode cX9_canBeTeams 12 = .ok (.ixor, 1) := by decide +kernel
theorem dX9_canBeTeams_13 : decode cX9_canBeTeams 13 = .ok (.iand, 1) := by decide +kernel
theorem dX9_canBeTeams_14 : decode cX9_canBeTeams 14 = .ok (.ifCond .ne 20, 3) := by decide +kernel
theorem dX9_canBeTeams_17 : decode cX9_canBeTeams 17 = .ok (.iload_n 1, 1) := by decide +kernel
theorem dX9_canBeTeams_18 : decode cX9_canBeTeams 18 = .ok (.invokestatic 207, 3) := by decide +kernel
theorem dX9_canBeTeams_21 : decode cX9_canBeTeams 21 = .ok (.iconst 2, 1) := by decide +kernel
theorem dX9_canBeTeams_22 : decode cX9_canBeTeams 22 = .ok (.bipush 12, 2) := by decide +kernel
theorem dX9_canBeTeams_24 : decode cX9_canBeTeams 24 = .ok (.invokestatic 76, 3) := by decide +kernel
theorem dX9_canBeTeams_27 : decode cX9_canBeTeams 27 = .ok (.ifCond .eq 7, 3) := by decide +kernel
theorem dX9_canBeTeams_30 : decode cX9_canBeTeams 30 = .ok (.iconst 1, 1) := by decide +kernel
theorem dX9_canBeTeams_31 : decode cX9_canBeTeams 31 = .ok (.goto 4, 3) := by decide +kernel
theorem dX9_canBeTeams_34 : decode cX9_canBeTeams 34 = .ok (.iconst 0, 1) := by decide +kernel
theorem dX9_canBeTeams_35 : decode cX9_canBeTeams 35 = .ok (.ireturn, 1) := by decide +kernel
theorem dX9_evenestTeam_0 : decode cX9_evenestTeam 0 = .ok (.iload_n 1, 1) := by decide +kernel
theorem dX9_evenestTeam_1 : decode cX9_evenestTeam 1 = .ok (.invokestatic 255, 3) := by decide +kernel
theorem dX9_evenestTeam_4 : decode cX9_evenestTeam 4 = .ok (.istore_n 2, 1) := by decide +kernel
theorem dX9_evenestTeam_5 : decode cX9_evenestTeam 5 = .ok (.iload_n 1, 1) := by decide +kernel
theorem dX9_evenestTeam_6 : decode cX9_evenestTeam 6 = .ok (.iload_n 2, 1) := by decide +kernel
theorem dX9_evenestTeam_7 : decode cX9_evenestTeam 7 = .ok (.ixor, 1) := by decide +kernel
theorem dX9_evenestTeam_8 : decode cX9_evenestTeam 8 = .ok (.istore_n 3, 1) := by decide +kernel
theorem dX9_evenestTeam_9 : decode cX9_evenestTeam 9 = .ok (.iload_n 1, 1) := by decide +kernel
theorem dX9_evenestTeam_10 : decode cX9_evenestTeam 10 = .ok (.invokestatic 207, 3) := by decide +kernel
theorem dX9_evenestTeam_13 : decode cX9_evenestTeam 13 = .ok (.istore 4, 2) := by decide +kernel
theorem dX9_evenestTeam_15 : decode cX9_evenestTeam 15 = .ok (.iconst 1, 1) := by decide +kernel
theorem dX9_evenestTeam_16 : decode cX9_evenestTeam 16 = .ok (.iload 4, 2) := by decide +kernel
theorem dX9_evenestTeam_18 : decode cX9_evenestTeam 18 = .ok (.iconst 1, 1) := by decide +kernel
theorem dX9_evenestTeam_19 : decode cX9_evenestTeam 19 = .ok (.isub, 1) := by decide +kernel
theorem dX9_evenestTeam_20 : decode cX9_evenestTeam 20 = .ok (.ishl, 1) := by decide +kernel
theorem dX9_evenestTeam_21 : decode cX9_evenestTeam 21 = .ok (.istore 5, 2) := by decide +kernel
theorem dX9_evenestTeam_23 : decode cX9_evenestTeam 23 = .ok (.iconst 0, 1) := by decide +kernel
theorem dX9_evenestTeam_24 : decode cX9_evenestTeam 24 = .ok (.istore 6, 2) := by decide +kernel
theorem dX9_evenestTeam_26 : decode cX9_evenestTeam 26 = .ok (.ldc_w 258, 3) := by decide +kernel
theorem dX9_evenestTeam_29 : decode cX9_evenestTeam 29 = .ok (.istore 7, 2) := by decide +kernel
theorem dX9_evenestTeam_31 : decode cX9_evenestTeam 31 = .ok (.iconst 0, 1) := by decide +kernel
theorem dX9_evenestTeam_32 : decode cX9_evenestTeam 32 = .ok (.istore 8, 2) := by decide +kernel
theorem dX9_evenestTeam_34 : decode cX9_evenestTeam 34 = .ok (.iconst 0, 1) := by decide +kernel
theorem dX9_evenestTeam_35 : decode cX9_evenestTeam 35 = .ok (.istore 9, 2) := by decide +kernel
theorem dX9_evenestTeam_37 : decode cX9_evenestTeam 37 = .ok (.iload 9, 2) := by decide +kernel
theorem dX9_evenestTeam_39 : decode cX9_evenestTeam 39 = .ok (.iload 5, 2) := by decide +kernel
theorem dX9_evenestTeam_41 : decode cX9_evenestTeam 41 = .ok (.if_icmp .ge 64, 3) := by decide +kernel
theorem dX9_evenestTeam_44 : decode cX9_evenestTeam 44 = .ok (.iload_n 2, 1) := by decide +kernel
theorem dX9_evenestTeam_45 : decode cX9_evenestTeam 45 = .ok (.iload 8, 2) := by decide +kernel
theorem dX9_evenestTeam_47 : decode cX9_evenestTeam 47 = .ok (.ior, 1) := by decide +kernel
theorem dX9_evenestTeam_48 : decode cX9_evenestTeam 48 = .ok (.istore 10, 2) := by decide +kernel
theorem dX9_evenestTeam_50 : decode cX9_evenestTeam 50 = .ok (.iconst 2, 1) := by decide +kernel
theorem dX9_evenestTeam_51 : decode cX9_evenestTeam 51 = .ok (.iload 10, 2) := by decide +kernel
theorem dX9_evenestTeam_53 : decode cX9_evenestTeam 53 = .ok (.invokestatic 207, 3) := by decide +kernel
theorem dX9_evenestTeam_56 : decode cX9_evenestTeam 56 = .ok (.imul, 1) := by decide +kernel
theorem dX9_evenestTeam_57 : decode cX9_evenestTeam 57 = .ok (.iload 4, 2) := by decide +kernel
theorem dX9_evenestTeam_59 : decode cX9_evenestTeam 59 = .ok (.isub, 1) := by decide +kernel
theorem dX9_evenestTeam_60 : decode cX9_evenestTeam 60 = .ok (.invokestatic 259, 3) := by decide +kernel
theorem dX9_evenestTeam_63 : decode cX9_evenestTeam 63 = .ok (.iconst 1, 1) := by decide +kernel
theorem dX9_evenestTeam_64 : decode cX9_evenestTeam 64 = .ok (.if_icmp .gt 27, 3) := by decide +kernel
theorem dX9_evenestTeam_67 : decode cX9_evenestTeam 67 = .ok (.aload_n 0, 1) := by decide +kernel
theorem dX9_evenestTeam_68 : decode cX9_evenestTeam 68 = .ok (.iload 10, 2) := by decide +kernel
theorem dX9_evenestTeam_70 : decode cX9_evenestTeam 70 = .ok (.iload_n 1, 1) := by decide +kernel
theorem dX9_evenestTeam_71 : decode cX9_evenestTeam 71 = .ok (.invokevirtual 252, 3) := by decide +kernel
theorem dX9_evenestTeam_74 : decode cX9_evenestTeam 74 = .ok (.istore 11, 2) := by decide +kernel
theorem dX9_evenestTeam_76 : decode cX9_evenestTeam 76 = .ok (.iload 11, 2) := by decide +kernel
theorem dX9_evenestTeam_78 : decode cX9_evenestTeam 78 = .ok (.iload 7, 2) := by decide +kernel
theorem dX9_evenestTeam_80 : decode cX9_evenestTeam 80 = .ok (.if_icmp .ge 11, 3) := by decide +kernel
theorem dX9_evenestTeam_83 : decode cX9_evenestTeam 83 = .ok (.iload 10, 2) := by decide +kernel
theorem dX9_evenestTeam_85 : decode cX9_evenestTeam 85 = .ok (.istore 6, 2) := by decide +kernel
theorem dX9_evenestTeam_87 : decode cX9_evenestTeam 87 = .ok (.iload 11, 2) := by decide +kernel
theorem dX9_evenestTeam_89 : decode cX9_evenestTeam 89 = .ok (.istore 7, 2) := by decide +kernel
theorem dX9_evenestTeam_91 : decode cX9_evenestTeam 91 = .ok (.iload 8, 2) := by decide +kernel
theorem dX9_evenestTeam_93 : decode cX9_evenestTeam 93 = .ok (.iload_n 3, 1) := by decide +kernel
theorem dX9_evenestTeam_94 : decode cX9_evenestTeam 94 = .ok (.isub, 1) := by decide +kernel
theorem dX9_evenestTeam_95 : decode cX9_evenestTeam 95 = .ok (.iload_n 3, 1) := by decide +kernel
theorem dX9_evenestTeam_96 : decode cX9_evenestTeam 96 = .ok (.iand, 1) := by decide +kernel
theorem dX9_evenestTeam_97 : decode cX9_evenestTeam 97 = .ok (.istore 8, 2) := by decide +kernel
theorem dX9_evenestTeam_99 : decode cX9_evenestTeam 99 = .ok (.iinc 9 1, 3) := by decide +kernel
theorem dX9_evenestTeam_102 : decode cX9_evenestTeam 102 = .ok (.goto (-65), 3) := by decide +kernel
theorem dX9_evenestTeam_105 : decode cX9_evenestTeam 105 = .ok (.iload 6, 2) := by decide +kernel
theorem dX9_evenestTeam_107 : decode cX9_evenestTeam 107 = .ok (.ireturn, 1) := by decide +kernel
theorem dX9_marksApart_0 : decode cX9_marksApart 0 = .ok (.iconst 0, 1) := by decide +kernel
theorem dX9_marksApart_1 : decode cX9_marksApart 1 = .ok (.istore_n 3, 1) := by decide +kernel
theorem dX9_marksApart_2 : decode cX9_marksApart 2 = .ok (.iconst 0, 1) := by decide +kernel
theorem dX9_marksApart_3 : decode cX9_marksApart 3 = .ok (.istore 4, 2) := by decide +kernel
theorem dX9_marksApart_5 : decode cX9_marksApart 5 = .ok (.iload 4, 2) := by decide +kernel
theorem dX9_marksApart_7 : decode cX9_marksApart 7 = .ok (.aload_n 0, 1) := by decide +kernel
theorem dX9_marksApart_8 : decode cX9_marksApart 8 = .ok (.getfield 62, 3) := by decide +kernel
theorem dX9_marksApart_11 : decode cX9_marksApart 11 = .ok (.if_icmp .ge 58, 3) := by decide +kernel
theorem dX9_marksApart_14 : decode cX9_marksApart 14 = .ok (.iload_n 1, 1) := by decide +kernel
theorem dX9_marksApart_15 : decode cX9_marksApart 15 = .ok (.iload 4, 2) := by decide +kernel
theorem dX9_marksApart_17 : decode cX9_marksApart 17 = .ok (.ishr, 1) := by decide +kernel
theorem dX9_marksApart_18 : decode cX9_marksApart 18 = .ok (.iconst 1, 1) := by decide +kernel
theorem dX9_marksApart_19 : decode cX9_marksApart 19 = .ok (.iand, 1) := by decide +kernel
theorem dX9_marksApart_20 : decode cX9_marksApart 20 = .ok (.iconst 1, 1) := by decide +kernel
theorem dX9_marksApart_21 : decode cX9_marksApart 21 = .ok (.if_icmp .ne 19, 3) := by decide +kernel
theorem dX9_marksApart_24 : decode cX9_marksApart 24 = .ok (.iload_n 3, 1) := by decide +kernel
theorem dX9_marksApart_25 : decode cX9_marksApart 25 = .ok (.aload_n 0, 1) := by decide +kernel
theorem dX9_marksApart_26 : decode cX9_marksApart 26 = .ok (.getfield 11, 3) := by decide +kernel
theorem dX9_marksApart_29 : decode cX9_marksApart 29 = .ok (.iload 4, 2) := by decide +kernel
theorem dX9_marksApart_31 : decode cX9_marksApart 31 = .ok (.aaload, 1) := by decide +kernel
theorem dX9_marksApart_32 : decode cX9_marksApart 32 = .ok (.getfield 243, 3) := by decide +kernel
theorem dX9_marksApart_35 : decode cX9_marksApart 35 = .ok (.iadd, 1) := by decide +kernel
theorem dX9_marksApart_36 : decode cX9_marksApart 36 = .ok (.istore_n 3, 1) := by decide +kernel
theorem dX9_marksApart_37 : decode cX9_marksApart 37 = .ok (.goto 26, 3) := by decide +kernel
theorem dX9_marksApart_40 : decode cX9_marksApart 40 = .ok (.iload_n 2, 1) := by decide +kernel
theorem dX9_marksApart_41 : decode cX9_marksApart 41 = .ok (.iload 4, 2) := by decide +kernel
theorem dX9_marksApart_43 : decode cX9_marksApart 43 = .ok (.ishr, 1) := by decide +kernel
theorem dX9_marksApart_44 : decode cX9_marksApart 44 = .ok (.iconst 1, 1) := by decide +kernel
theorem dX9_marksApart_45 : decode cX9_marksApart 45 = .ok (.iand, 1) := by decide +kernel
theorem dX9_marksApart_46 : decode cX9_marksApart 46 = .ok (.iconst 1, 1) := by decide +kernel
theorem dX9_marksApart_47 : decode cX9_marksApart 47 = .ok (.if_icmp .ne 16, 3) := by decide +kernel
theorem dX9_marksApart_50 : decode cX9_marksApart 50 = .ok (.iload_n 3, 1) := by decide +kernel
theorem dX9_marksApart_51 : decode cX9_marksApart 51 = .ok (.aload_n 0, 1) := by decide +kernel
theorem dX9_marksApart_52 : decode cX9_marksApart 52 = .ok (.getfield 11, 3) := by decide +kernel
theorem dX9_marksApart_55 : decode cX9_marksApart 55 = .ok (.iload 4, 2) := by decide +kernel
theorem dX9_marksApart_57 : decode cX9_marksApart 57 = .ok (.aaload, 1) := by decide +kernel
theorem dX9_marksApart_58 : decode cX9_marksApart 58 = .ok (.getfield 243, 3) := by decide +kernel
theorem dX9_marksApart_61 : decode cX9_marksApart 61 = .ok (.isub, 1) := by decide +kernel
theorem dX9_marksApart_62 : decode cX9_marksApart 62 = .ok (.istore_n 3, 1) := by decide +kernel
theorem dX9_marksApart_63 : decode cX9_marksApart 63 = .ok (.iinc 4 1, 3) := by decide +kernel
theorem dX9_marksApart_66 : decode cX9_marksApart 66 = .ok (.goto (-61), 3) := by decide +kernel
theorem dX9_marksApart_69 : decode cX9_marksApart 69 = .ok (.iload_n 3, 1) := by decide +kernel
theorem dX9_marksApart_70 : decode cX9_marksApart 70 = .ok (.invokestatic 259, 3) := by decide +kernel
theorem dX9_marksApart_73 : decode cX9_marksApart 73 = .ok (.ireturn, 1) := by decide +kernel
theorem dX9_best_0 : decode cX9_best 0 = .ok (.aload_n 0, 1) := by decide +kernel
theorem dX9_best_1 : decode cX9_best 1 = .ok (.getfield 32, 3) := by decide +kernel
theorem dX9_best_4 : decode cX9_best 4 = .ok (.invokevirtual 264, 3) := by decide +kernel
theorem dX9_best_7 : decode cX9_best 7 = .ok (.ireturn, 1) := by decide +kernel
theorem dX9_seed_0 : decode cX9_seed 0 = .ok (.iload_n 1, 1) := by decide +kernel
theorem dX9_seed_1 : decode cX9_seed 1 = .ok (.iconst 1, 1) := by decide +kernel
theorem dX9_seed_2 : decode cX9_seed 2 = .ok (.ldc_w 267, 3) := by decide +kernel
theorem dX9_seed_5 : decode cX9_seed 5 = .ok (.invokestatic 76, 3) := by decide +kernel
theorem dX9_seed_8 : decode cX9_seed 8 = .ok (.ifCond .ne 5, 3) := by decide +kernel
theorem dX9_seed_11 : decode cX9_seed 11 = .ok (.iconst (-1), 1) := by decide +kernel
theorem dX9_seed_12 : decode cX9_seed 12 = .ok (.ireturn, 1) := by decide +kernel
theorem dX9_seed_13 : decode cX9_seed 13 = .ok (.aload_n 0, 1) := by decide +kernel
theorem dX9_seed_14 : decode cX9_seed 14 = .ok (.getfield 39, 3) := by decide +kernel
theorem dX9_seed_17 : decode cX9_seed 17 = .ok (.iload_n 1, 1) := by decide +kernel
theorem dX9_seed_18 : decode cX9_seed 18 = .ok (.invokevirtual 268, 3) := by decide +kernel
theorem dX9_seed_21 : decode cX9_seed 21 = .ok (.aload_n 0, 1) := by decide +kernel
theorem dX9_seed_22 : decode cX9_seed 22 = .ok (.getfield 62, 3) := by decide +kernel
theorem dX9_seed_25 : decode cX9_seed 25 = .ok (.ireturn, 1) := by decide +kernel
theorem dX9_draw_0 : decode cX9_draw 0 = .ok (.aload_n 0, 1) := by decide +kernel
theorem dX9_draw_1 : decode cX9_draw 1 = .ok (.getfield 39, 3) := by decide +kernel
theorem dX9_draw_4 : decode cX9_draw 4 = .ok (.aload_n 0, 1) := by decide +kernel
theorem dX9_draw_5 : decode cX9_draw 5 = .ok (.getfield 62, 3) := by decide +kernel
theorem dX9_draw_8 : decode cX9_draw 8 = .ok (.invokevirtual 270, 3) := by decide +kernel
theorem dX9_draw_11 : decode cX9_draw 11 = .ok (.ireturn, 1) := by decide +kernel
theorem dX9_count_0 : decode cX9_count 0 = .ok (.iload_n 1, 1) := by decide +kernel
theorem dX9_count_1 : decode cX9_count 1 = .ok (.tableswitch 86 0 5 #[39, 44, 49, 57, 73, 81], 39) := by decide +kernel
theorem dX9_count_40 : decode cX9_count 40 = .ok (.aload_n 0, 1) := by decide +kernel
theorem dX9_count_41 : decode cX9_count 41 = .ok (.getfield 62, 3) := by decide +kernel
theorem dX9_count_44 : decode cX9_count 44 = .ok (.ireturn, 1) := by decide +kernel
theorem dX9_count_45 : decode cX9_count 45 = .ok (.aload_n 0, 1) := by decide +kernel
theorem dX9_count_46 : decode cX9_count 46 = .ok (.getfield 98, 3) := by decide +kernel
theorem dX9_count_49 : decode cX9_count 49 = .ok (.ireturn, 1) := by decide +kernel
theorem dX9_count_50 : decode cX9_count 50 = .ok (.aload_n 0, 1) := by decide +kernel
theorem dX9_count_51 : decode cX9_count 51 = .ok (.getfield 32, 3) := by decide +kernel
theorem dX9_count_54 : decode cX9_count 54 = .ok (.getfield 236, 3) := by decide +kernel
theorem dX9_count_57 : decode cX9_count 57 = .ok (.ireturn, 1) := by decide +kernel
theorem dX9_count_58 : decode cX9_count 58 = .ok (.aload_n 0, 1) := by decide +kernel
theorem dX9_count_59 : decode cX9_count 59 = .ok (.getfield 18, 3) := by decide +kernel
theorem dX9_count_62 : decode cX9_count 62 = .ok (.getfield 58, 3) := by decide +kernel
theorem dX9_count_65 : decode cX9_count 65 = .ok (.ifCond .eq 7, 3) := by decide +kernel
theorem dX9_count_68 : decode cX9_count 68 = .ok (.iconst 1, 1) := by decide +kernel
theorem dX9_count_69 : decode cX9_count 69 = .ok (.goto 4, 3) := by decide +kernel
theorem dX9_count_72 : decode cX9_count 72 = .ok (.iconst 0, 1) := by decide +kernel
theorem dX9_count_73 : decode cX9_count 73 = .ok (.ireturn, 1) := by decide +kernel
theorem dX9_count_74 : decode cX9_count 74 = .ok (.aload_n 0, 1) := by decide +kernel
theorem dX9_count_75 : decode cX9_count 75 = .ok (.getfield 25, 3) := by decide +kernel
theorem dX9_count_78 : decode cX9_count 78 = .ok (.getfield 123, 3) := by decide +kernel
theorem dX9_count_81 : decode cX9_count 81 = .ok (.ireturn, 1) := by decide +kernel
theorem dX9_count_82 : decode cX9_count 82 = .ok (.aload_n 0, 1) := by decide +kernel
theorem dX9_count_83 : decode cX9_count 83 = .ok (.getfield 150, 3) := by decide +kernel
theorem dX9_count_86 : decode cX9_count 86 = .ok (.ireturn, 1) := by decide +kernel
theorem dX9_count_87 : decode cX9_count 87 = .ok (.iconst (-1), 1) := by decide +kernel
theorem dX9_count_88 : decode cX9_count 88 = .ok (.ireturn, 1) := by decide +kernel
theorem dX9_isBox_0 : decode cX9_isBox 0 = .ok (.iload_n 1, 1) := by decide +kernel
theorem dX9_isBox_1 : decode cX9_isBox 1 = .ok (.ifCond .lt 15, 3) := by decide +kernel
theorem dX9_isBox_4 : decode cX9_isBox 4 = .ok (.iload_n 1, 1) := by decide +kernel
theorem dX9_isBox_5 : decode cX9_isBox 5 = .ok (.aload_n 0, 1) := by decide +kernel
theorem dX9_isBox_6 : decode cX9_isBox 6 = .ok (.getfield 62, 3) := by decide +kernel
theorem dX9_isBox_9 : decode cX9_isBox 9 = .ok (.if_icmp .ge 7, 3) := by decide +kernel
theorem dX9_isBox_12 : decode cX9_isBox 12 = .ok (.iconst 1, 1) := by decide +kernel
theorem dX9_isBox_13 : decode cX9_isBox 13 = .ok (.goto 4, 3) := by decide +kernel
theorem dX9_isBox_16 : decode cX9_isBox 16 = .ok (.iconst 0, 1) := by decide +kernel
theorem dX9_isBox_17 : decode cX9_isBox 17 = .ok (.ireturn, 1) := by decide +kernel
theorem dX9_isBase_0 : decode cX9_isBase 0 = .ok (.iload_n 0, 1) := by decide +kernel
theorem dX9_isBase_1 : decode cX9_isBase 1 = .ok (.ifCond .lt 12, 3) := by decide +kernel
theorem dX9_isBase_4 : decode cX9_isBase 4 = .ok (.iload_n 0, 1) := by decide +kernel
theorem dX9_isBase_5 : decode cX9_isBase 5 = .ok (.iconst 2, 1) := by decide +kernel
theorem dX9_isBase_6 : decode cX9_isBase 6 = .ok (.if_icmp .ge 7, 3) := by decide +kernel
theorem dX9_isBase_9 : decode cX9_isBase 9 = .ok (.iconst 1, 1) := by decide +kernel
theorem dX9_isBase_10 : decode cX9_isBase 10 = .ok (.goto 4, 3) := by decide +kernel
theorem dX9_isBase_13 : decode cX9_isBase 13 = .ok (.iconst 0, 1) := by decide +kernel
theorem dX9_isBase_14 : decode cX9_isBase 14 = .ok (.ireturn, 1) := by decide +kernel
theorem dX9_isWithin_0 : decode cX9_isWithin 0 = .ok (.iload_n 0, 1) := by decide +kernel
theorem dX9_isWithin_1 : decode cX9_isWithin 1 = .ok (.iload_n 1, 1) := by decide +kernel
theorem dX9_isWithin_2 : decode cX9_isWithin 2 = .ok (.if_icmp .lt 12, 3) := by decide +kernel
theorem dX9_isWithin_5 : decode cX9_isWithin 5 = .ok (.iload_n 0, 1) := by decide +kernel
theorem dX9_isWithin_6 : decode cX9_isWithin 6 = .ok (.iload_n 2, 1) := by decide +kernel
theorem dX9_isWithin_7 : decode cX9_isWithin 7 = .ok (.if_icmp .gt 7, 3) := by decide +kernel
theorem dX9_isWithin_10 : decode cX9_isWithin 10 = .ok (.iconst 1, 1) := by decide +kernel
theorem dX9_isWithin_11 : decode cX9_isWithin 11 = .ok (.goto 4, 3) := by decide +kernel
theorem dX9_isWithin_14 : decode cX9_isWithin 14 = .ok (.iconst 0, 1) := by decide +kernel
theorem dX9_isWithin_15 : decode cX9_isWithin 15 = .ok (.ireturn, 1) := by decide +kernel
theorem dX9_clearBit_0 : decode cX9_clearBit 0 = .ok (.iconst 0, 1) := by decide +kernel
theorem dX9_clearBit_1 : decode cX9_clearBit 1 = .ok (.istore_n 3, 1) := by decide +kernel
theorem dX9_clearBit_2 : decode cX9_clearBit 2 = .ok (.iconst 0, 1) := by decide +kernel
theorem dX9_clearBit_3 : decode cX9_clearBit 3 = .ok (.istore 4, 2) := by decide +kernel
theorem dX9_clearBit_5 : decode cX9_clearBit 5 = .ok (.iload 4, 2) := by decide +kernel
theorem dX9_clearBit_7 : decode cX9_clearBit 7 = .ok (.iload_n 2, 1) := by decide +kernel
theorem dX9_clearBit_8 : decode cX9_clearBit 8 = .ok (.if_icmp .ge 29, 3) := by decide +kernel
theorem dX9_clearBit_11 : decode cX9_clearBit 11 = .ok (.iload_n 0, 1) := by decide +kernel
theorem dX9_clearBit_12 : decode cX9_clearBit 12 = .ok (.iload 4, 2) := by decide +kernel
theorem dX9_clearBit_14 : decode cX9_clearBit 14 = .ok (.ishr, 1) := by decide +kernel
theorem dX9_clearBit_15 : decode cX9_clearBit 15 = .ok (.iconst 1, 1) := by decide +kernel
theorem dX9_clearBit_16 : decode cX9_clearBit 16 = .ok (.iand, 1) := by decide +kernel
theorem dX9_clearBit_17 : decode cX9_clearBit 17 = .ok (.ifCond .ne 14, 3) := by decide +kernel
theorem dX9_clearBit_20 : decode cX9_clearBit 20 = .ok (.iload_n 3, 1) := by decide +kernel
theorem dX9_clearBit_21 : decode cX9_clearBit 21 = .ok (.iload_n 1, 1) := by decide +kernel
theorem dX9_clearBit_22 : decode cX9_clearBit 22 = .ok (.if_icmp .ne 6, 3) := by decide +kernel
theorem dX9_clearBit_25 : decode cX9_clearBit 25 = .ok (.iload 4, 2) := by decide +kernel
theorem dX9_clearBit_27 : decode cX9_clearBit 27 = .ok (.ireturn, 1) := by decide +kernel
theorem dX9_clearBit_28 : decode cX9_clearBit 28 = .ok (.iinc 3 1, 3) := by decide +kernel
theorem dX9_clearBit_31 : decode cX9_clearBit 31 = .ok (.iinc 4 1, 3) := by decide +kernel
theorem dX9_clearBit_34 : decode cX9_clearBit 34 = .ok (.goto (-29), 3) := by decide +kernel
theorem dX9_clearBit_37 : decode cX9_clearBit 37 = .ok (.iconst 0, 1) := by decide +kernel
theorem dX9_clearBit_38 : decode cX9_clearBit 38 = .ok (.ireturn, 1) := by decide +kernel
theorem dX10_init_0 : decode cX10_init 0 = .ok (.aload_n 0, 1) := by decide +kernel
theorem dX10_init_1 : decode cX10_init 1 = .ok (.invokespecial 1, 3) := by decide +kernel
theorem dX10_init_4 : decode cX10_init 4 = .ok (.aload_n 0, 1) := by decide +kernel
theorem dX10_init_5 : decode cX10_init 5 = .ok (.bipush 32, 2) := by decide +kernel
theorem dX10_init_7 : decode cX10_init 7 = .ok (.newarray .int, 2) := by decide +kernel
theorem dX10_init_9 : decode cX10_init 9 = .ok (.putfield 7, 3) := by decide +kernel
theorem dX10_init_12 : decode cX10_init 12 = .ok (.aload_n 0, 1) := by decide +kernel
theorem dX10_init_13 : decode cX10_init 13 = .ok (.bipush 32, 2) := by decide +kernel
theorem dX10_init_15 : decode cX10_init 15 = .ok (.newarray .int, 2) := by decide +kernel
theorem dX10_init_17 : decode cX10_init 17 = .ok (.putfield 13, 3) := by decide +kernel
theorem dX10_init_20 : decode cX10_init 20 = .ok (.aload_n 0, 1) := by decide +kernel
theorem dX10_init_21 : decode cX10_init 21 = .ok (.bipush 32, 2) := by decide +kernel
theorem dX10_init_23 : decode cX10_init 23 = .ok (.newarray .int, 2) := by decide +kernel
theorem dX10_init_25 : decode cX10_init 25 = .ok (.putfield 16, 3) := by decide +kernel
theorem dX10_init_28 : decode cX10_init 28 = .ok (.aload_n 0, 1) := by decide +kernel
theorem dX10_init_29 : decode cX10_init 29 = .ok (.bipush 32, 2) := by decide +kernel
theorem dX10_init_31 : decode cX10_init 31 = .ok (.newarray .int, 2) := by decide +kernel
theorem dX10_init_33 : decode cX10_init 33 = .ok (.putfield 19, 3) := by decide +kernel
theorem dX10_init_36 : decode cX10_init 36 = .ok (.aload_n 0, 1) := by decide +kernel
theorem dX10_init_37 : decode cX10_init 37 = .ok (.bipush 16, 2) := by decide +kernel
theorem dX10_init_39 : decode cX10_init 39 = .ok (.newarray .int, 2) := by decide +kernel
theorem dX10_init_41 : decode cX10_init 41 = .ok (.putfield 22, 3) := by decide +kernel
theorem dX10_init_44 : decode cX10_init 44 = .ok (.aload_n 0, 1) := by decide +kernel
theorem dX10_init_45 : decode cX10_init 45 = .ok (.bipush 16, 2) := by decide +kernel
theorem dX10_init_47 : decode cX10_init 47 = .ok (.newarray .int, 2) := by decide +kernel
theorem dX10_init_49 : decode cX10_init 49 = .ok (.putfield 25, 3) := by decide +kernel
theorem dX10_init_52 : decode cX10_init 52 = .ok (.aload_n 0, 1) := by decide +kernel
theorem dX10_init_53 : decode cX10_init 53 = .ok (.bipush 16, 2) := by decide +kernel
theorem dX10_init_55 : decode cX10_init 55 = .ok (.newarray .int, 2) := by decide +kernel
theorem dX10_init_57 : decode cX10_init 57 = .ok (.putfield 28, 3) := by decide +kernel
theorem dX10_init_60 : decode cX10_init 60 = .ok (.aload_n 0, 1) := by decide +kernel
theorem dX10_init_61 : decode cX10_init 61 = .ok (.bipush 16, 2) := by decide +kernel
theorem dX10_init_63 : decode cX10_init 63 = .ok (.newarray .boolean, 2) := by decide +kernel
theorem dX10_init_65 : decode cX10_init 65 = .ok (.putfield 31, 3) := by decide +kernel
theorem dX10_init_68 : decode cX10_init 68 = .ok (.aload_n 0, 1) := by decide +kernel
theorem dX10_init_69 : decode cX10_init 69 = .ok (.bipush 32, 2) := by decide +kernel
theorem dX10_init_71 : decode cX10_init 71 = .ok (.newarray .int, 2) := by decide +kernel
theorem dX10_init_73 : decode cX10_init 73 = .ok (.putfield 35, 3) := by decide +kernel
theorem dX10_init_76 : decode cX10_init 76 = .ok (.aload_n 0, 1) := by decide +kernel
theorem dX10_init_77 : decode cX10_init 77 = .ok (.bipush 32, 2) := by decide +kernel
theorem dX10_init_79 : decode cX10_init 79 = .ok (.newarray .int, 2) := by decide +kernel
theorem dX10_init_81 : decode cX10_init 81 = .ok (.putfield 38, 3) := by decide +kernel
theorem dX10_init_84 : decode cX10_init 84 = .ok (.aload_n 0, 1) := by decide +kernel
theorem dX10_init_85 : decode cX10_init 85 = .ok (.bipush 32, 2) := by decide +kernel
theorem dX10_init_87 : decode cX10_init 87 = .ok (.newarray .int, 2) := by decide +kernel
theorem dX10_init_89 : decode cX10_init 89 = .ok (.putfield 41, 3) := by decide +kernel
theorem dX10_init_92 : decode cX10_init 92 = .ok (.aload_n 0, 1) := by decide +kernel
theorem dX10_init_93 : decode cX10_init 93 = .ok (.bipush 32, 2) := by decide +kernel
theorem dX10_init_95 : decode cX10_init 95 = .ok (.newarray .int, 2) := by decide +kernel
theorem dX10_init_97 : decode cX10_init 97 = .ok (.putfield 44, 3) := by decide +kernel
theorem dX10_init_100 : decode cX10_init 100 = .ok (.aload_n 0, 1) := by decide +kernel
theorem dX10_init_101 : decode cX10_init 101 = .ok (.sipush 400, 3) := by decide +kernel
theorem dX10_init_104 : decode cX10_init 104 = .ok (.newarray .int, 2) := by decide +kernel
theorem dX10_init_106 : decode cX10_init 106 = .ok (.putfield 47, 3) := by decide +kernel
theorem dX10_init_109 : decode cX10_init 109 = .ok (.aload_n 0, 1) := by decide +kernel
theorem dX10_init_110 : decode cX10_init 110 = .ok (.sipush 400, 3) := by decide +kernel
theorem dX10_init_113 : decode cX10_init 113 = .ok (.newarray .int, 2) := by decide +kernel
theorem dX10_init_115 : decode cX10_init 115 = .ok (.putfield 50, 3) := by decide +kernel
theorem dX10_init_118 : decode cX10_init 118 = .ok (.aload_n 0, 1) := by decide +kernel
theorem dX10_init_119 : decode cX10_init 119 = .ok (.sipush 400, 3) := by decide +kernel
theorem dX10_init_122 : decode cX10_init 122 = .ok (.newarray .int, 2) := by decide +kernel
theorem dX10_init_124 : decode cX10_init 124 = .ok (.putfield 53, 3) := by decide +kernel
theorem dX10_init_127 : decode cX10_init 127 = .ok (.aload_n 0, 1) := by decide +kernel
theorem dX10_init_128 : decode cX10_init 128 = .ok (.sipush 400, 3) := by decide +kernel
theorem dX10_init_131 : decode cX10_init 131 = .ok (.newarray .int, 2) := by decide +kernel
theorem dX10_init_133 : decode cX10_init 133 = .ok (.putfield 56, 3) := by decide +kernel
theorem dX10_init_136 : decode cX10_init 136 = .ok (.aload_n 0, 1) := by decide +kernel
theorem dX10_init_137 : decode cX10_init 137 = .ok (.sipush 400, 3) := by decide +kernel
theorem dX10_init_140 : decode cX10_init 140 = .ok (.newarray .int, 2) := by decide +kernel
theorem dX10_init_142 : decode cX10_init 142 = .ok (.putfield 59, 3) := by decide +kernel
theorem dX10_init_145 : decode cX10_init 145 = .ok (.aload_n 0, 1) := by decide +kernel
theorem dX10_init_146 : decode cX10_init 146 = .ok (.sipush 320, 3) := by decide +kernel
theorem dX10_init_149 : decode cX10_init 149 = .ok (.newarray .int, 2) := by decide +kernel
theorem dX10_init_151 : decode cX10_init 151 = .ok (.putfield 62, 3) := by decide +kernel
theorem dX10_init_154 : decode cX10_init 154 = .ok (.aload_n 0, 1) := by decide +kernel
theorem dX10_init_155 : decode cX10_init 155 = .ok (.bipush 16, 2) := by decide +kernel
theorem dX10_init_157 : decode cX10_init 157 = .ok (.newarray .int, 2) := by decide +kernel
theorem dX10_init_159 : decode cX10_init 159 = .ok (.putfield 65, 3) := by decide +kernel
theorem dX10_init_162 : decode cX10_init 162 = .ok (.return_, 1) := by decide +kernel
theorem dX10_in_0 : decode cX10_in 0 = .ok (.iload_n 0, 1) := by decide +kernel
theorem dX10_in_1 : decode cX10_in 1 = .ok (.iload_n 1, 1) := by decide +kernel
theorem dX10_in_2 : decode cX10_in 2 = .ok (.if_icmp .lt 12, 3) := by decide +kernel
theorem dX10_in_5 : decode cX10_in 5 = .ok (.iload_n 0, 1) := by decide +kernel
theorem dX10_in_6 : decode cX10_in 6 = .ok (.iload_n 2, 1) := by decide +kernel
theorem dX10_in_7 : decode cX10_in 7 = .ok (.if_icmp .gt 7, 3) := by decide +kernel
theorem dX10_in_10 : decode cX10_in 10 = .ok (.iconst 1, 1) := by decide +kernel
theorem dX10_in_11 : decode cX10_in 11 = .ok (.goto 4, 3) := by decide +kernel
theorem dX10_in_14 : decode cX10_in 14 = .ok (.iconst 0, 1) := by decide +kernel
theorem dX10_in_15 : decode cX10_in 15 = .ok (.ireturn, 1) := by decide +kernel
theorem dX10_isBox_0 : decode cX10_isBox 0 = .ok (.iload_n 1, 1) := by decide +kernel
theorem dX10_isBox_1 : decode cX10_isBox 1 = .ok (.iconst 0, 1) := by decide +kernel
theorem dX10_isBox_2 : decode cX10_isBox 2 = .ok (.aload_n 0, 1) := by decide +kernel
theorem dX10_isBox_3 : decode cX10_isBox 3 = .ok (.getfield 68, 3) := by decide +kernel
theorem dX10_isBox_6 : decode cX10_isBox 6 = .ok (.iconst 1, 1) := by decide +kernel
theorem dX10_isBox_7 : decode cX10_isBox 7 = .ok (.isub, 1) := by decide +kernel
theorem dX10_isBox_8 : decode cX10_isBox 8 = .ok (.invokestatic 72, 3) := by decide +kernel
theorem dX10_isBox_11 : decode cX10_isBox 11 = .ok (.ireturn, 1) := by decide +kernel
theorem dX10_isBase_0 : decode cX10_isBase 0 = .ok (.iload_n 0, 1) := by decide +kernel
theorem dX10_isBase_1 : decode cX10_isBase 1 = .ok (.iconst 0, 1) := by decide +kernel
theorem dX10_isBase_2 : decode cX10_isBase 2 = .ok (.iconst 1, 1) := by decide +kernel
theorem dX10_isBase_3 : decode cX10_isBase 3 = .ok (.invokestatic 72, 3) := by decide +kernel
theorem dX10_isBase_6 : decode cX10_isBase 6 = .ok (.ireturn, 1) := by decide +kernel
theorem dX10_box_0 : decode cX10_box 0 = .ok (.aload_n 0, 1) := by decide +kernel
theorem dX10_box_1 : decode cX10_box 1 = .ok (.getfield 76, 3) := by decide +kernel
theorem dX10_box_4 : decode cX10_box 4 = .ok (.ifCond .eq 6, 3) := by decide +kernel
theorem dX10_box_7 : decode cX10_box 7 = .ok (.bipush (-2), 2) := by decide +kernel
theorem dX10_box_9 : decode cX10_box 9 = .ok (.ireturn, 1) := by decide +kernel
theorem dX10_box_10 : decode cX10_box 10 = .ok (.aload_n 0, 1) := by decide +kernel
theorem dX10_box_11 : decode cX10_box 11 = .ok (.getfield 68, 3) := by decide +kernel
theorem dX10_box_14 : decode cX10_box 14 = .ok (.bipush 16, 2) := by decide +kernel
theorem dX10_box_16 : decode cX10_box 16 = .ok (.if_icmp .ne 6, 3) := by decide +kernel
theorem dX10_box_19 : decode cX10_box 19 = .ok (.bipush (-3), 2) := by decide +kernel
theorem dX10_box_21 : decode cX10_box 21 = .ok (.ireturn, 1) := by decide +kernel
theorem dX10_box_22 : decode cX10_box 22 = .ok (.aload_n 0, 1) := by decide +kernel
theorem dX10_box_23 : decode cX10_box 23 = .ok (.dup, 1) := by decide +kernel
theorem dX10_box_24 : decode cX10_box 24 = .ok (.getfield 68, 3) := by decide +kernel
theorem dX10_box_27 : decode cX10_box 27 = .ok (.iconst 1, 1) := by decide +kernel
theorem dX10_box_28 : decode cX10_box 28 = .ok (.iadd, 1) := by decide +kernel
theorem dX10_box_29 : decode cX10_box 29 = .ok (.putfield 68, 3) := by decide +kernel
theorem dX10_box_32 : decode cX10_box 32 = .ok (.aload_n 0, 1) := by decide +kernel
theorem dX10_box_33 : decode cX10_box 33 = .ok (.getfield 68, 3) := by decide +kernel
theorem dX10_box_36 : decode cX10_box 36 = .ok (.iconst 1, 1) := by decide +kernel
theorem dX10_box_37 : decode cX10_box 37 = .ok (.isub, 1) := by decide +kernel
theorem dX10_box_38 : decode cX10_box 38 = .ok (.ireturn, 1) := by decide +kernel
theorem dX10_road_0 : decode cX10_road 0 = .ok (.aload_n 0, 1) := by decide +kernel
theorem dX10_road_1 : decode cX10_road 1 = .ok (.iload_n 1, 1) := by decide +kernel
theorem dX10_road_2 : decode cX10_road 2 = .ok (.invokevirtual 80, 3) := by decide +kernel
theorem dX10_road_5 : decode cX10_road 5 = .ok (.ifCond .eq 31, 3) := by decide +kernel
theorem dX10_road_8 : decode cX10_road 8 = .ok (.iload_n 2, 1) := by decide +kernel
theorem dX10_road_9 : decode cX10_road 9 = .ok (.invokestatic 84, 3) := by decide +kernel
theorem dX10_road_12 : decode cX10_road 12 = .ok (.ifCond .eq 24, 3) := by decide +kernel
theorem dX10_road_15 : decode cX10_road 15 = .ok (.iload_n 3, 1) := by decide +kernel
theorem dX10_road_16 : decode cX10_road 16 = .ok (.iconst 0, 1) := by decide +kernel
theorem dX10_road_17 : decode cX10_road 17 = .ok (.ldc 87, 2) := by decide +kernel
theorem dX10_road_19 : decode cX10_road 19 = .ok (.invokestatic 72, 3) := by decide +kernel
theorem dX10_road_22 : decode cX10_road 22 = .ok (.ifCond .eq 14, 3) := by decide +kernel
theorem dX10_road_25 : decode cX10_road 25 = .ok (.iload 4, 2) := by decide +kernel
theorem dX10_road_27 : decode cX10_road 27 = .ok (.iconst 0, 1) := by decide +kernel
theorem dX10_road_28 : decode cX10_road 28 = .ok (.bipush 9, 2) := by decide +kernel
theorem dX10_road_30 : decode cX10_road 30 = .ok (.invokestatic 72, 3) := by decide +kernel
theorem dX10_road_33 : decode cX10_road 33 = .ok (.ifCond .ne 5, 3) := by decide +kernel
theorem dX10_road_36 : decode cX10_road 36 = .ok (.iconst (-1), 1) := by decide +kernel
theorem dX10_road_37 : decode cX10_road 37 = .ok (.ireturn, 1) := by decide +kernel
theorem dX10_road_38 : decode cX10_road 38 = .ok (.aload_n 0, 1) := by decide +kernel
theorem dX10_road_39 : decode cX10_road 39 = .ok (.getfield 7, 3) := by decide +kernel
theorem dX10_road_42 : decode cX10_road 42 = .ok (.iconst 2, 1) := by decide +kernel
theorem dX10_road_43 : decode cX10_road 43 = .ok (.iload_n 1, 1) := by decide +kernel
theorem dX10_road_44 : decode cX10_road 44 = .ok (.imul, 1) := by decide +kernel
theorem dX10_road_45 : decode cX10_road 45 = .ok (.iload_n 2, 1) := by decide +kernel
theorem dX10_road_46 : decode cX10_road 46 = .ok (.iadd, 1) := by decide +kernel
theorem dX10_road_47 : decode cX10_road 47 = .ok (.iload_n 3, 1) := by decide +kernel
theorem dX10_road_48 : decode cX10_road 48 = .ok (.iastore, 1) := by decide +kernel
theorem dX10_road_49 : decode cX10_road 49 = .ok (.aload_n 0, 1) := by decide +kernel
theorem dX10_road_50 : decode cX10_road 50 = .ok (.getfield 13, 3) := by decide +kernel
theorem dX10_road_53 : decode cX10_road 53 = .ok (.iconst 2, 1) := by decide +kernel
theorem dX10_road_54 : decode cX10_road 54 = .ok (.iload_n 1, 1) := by decide +kernel
theorem dX10_road_55 : decode cX10_road 55 = .ok (.imul, 1) := by decide +kernel
theorem dX10_road_56 : decode cX10_road 56 = .ok (.iload_n 2, 1) := by decide +kernel
theorem dX10_road_57 : decode cX10_road 57 = .ok (.iadd, 1) := by decide +kernel
theorem dX10_road_58 : decode cX10_road 58 = .ok (.iload 4, 2) := by decide +kernel
theorem dX10_road_60 : decode cX10_road 60 = .ok (.iastore, 1) := by decide +kernel
theorem dX10_road_61 : decode cX10_road 61 = .ok (.aload_n 0, 1) := by decide +kernel
theorem dX10_road_62 : decode cX10_road 62 = .ok (.getfield 16, 3) := by decide +kernel
theorem dX10_road_65 : decode cX10_road 65 = .ok (.iconst 2, 1) := by decide +kernel
theorem dX10_road_66 : decode cX10_road 66 = .ok (.iload_n 1, 1) := by decide +kernel
theorem dX10_road_67 : decode cX10_road 67 = .ok (.imul, 1) := by decide +kernel
theorem dX10_road_68 : decode cX10_road 68 = .ok (.iload_n 2, 1) := by decide +kernel
theorem dX10_road_69 : decode cX10_road 69 = .ok (.iadd, 1) := by decide +kernel
theorem dX10_road_70 : decode cX10_road 70 = .ok (.iconst 0, 1) := by decide +kernel
theorem dX10_road_71 : decode cX10_road 71 = .ok (.iastore, 1) := by decide +kernel
theorem dX10_road_72 : decode cX10_road 72 = .ok (.iconst 0, 1) := by decide +kernel
theorem dX10_road_73 : decode cX10_road 73 = .ok (.ireturn, 1) := by decide +kernel
theorem dX10_rule_0 : decode cX10_rule 0 = .ok (.iload_n 1, 1) := by decide +kernel
theorem dX10_rule_1 : decode cX10_rule 1 = .ok (.iconst 0, 1) := by decide +kernel
theorem dX10_rule_2 : decode cX10_rule 2 = .ok (.iconst 1, 1) := by decide +kernel
theorem dX10_rule_3 : decode cX10_rule 3 = .ok (.invokestatic 72, 3) := by decide +kernel
theorem dX10_rule_6 : decode cX10_rule 6 = .ok (.ifCond .eq 21, 3) := by decide +kernel
theorem dX10_rule_9 : decode cX10_rule 9 = .ok (.iload_n 2, 1) := by decide +kernel
theorem dX10_rule_10 : decode cX10_rule 10 = .ok (.iconst 0, 1) := by decide +kernel
theorem dX10_rule_11 : decode cX10_rule 11 = .ok (.iload_n 1, 1) := by decide +kernel
theorem dX10_rule_12 : decode cX10_rule 12 = .ok (.ifCond .ne 7, 3) := by decide +kernel
theorem dX10_rule_15 : decode cX10_rule 15 = .ok (.iconst 1, 1) := by decide +kernel
theorem dX10_rule_16 : decode cX10_rule 16 = .ok (.goto 5, 3) := by decide +kernel
theorem dX10_rule_19 : decode cX10_rule 19 = .ok (.bipush 16, 2) := by decide +kernel
theorem dX10_rule_21 : decode cX10_rule 21 = .ok (.invokestatic 72, 3) := by decide +kernel
theorem dX10_rule_24 : decode cX10_rule 24 = .ok (.ifCond .ne 5, 3) := by decide +kernel
theorem dX10_rule_27 : decode cX10_rule 27 = .ok (.iconst (-1), 1) := by decide +kernel
theorem dX10_rule_28 : decode cX10_rule 28 = .ok (.ireturn, 1) := by decide +kernel
theorem dX10_rule_29 : decode cX10_rule 29 = .ok (.iload_n 1, 1) := by decide +kernel
theorem dX10_rule_30 : decode cX10_rule 30 = .ok (.iconst 1, 1) := by decide +kernel
theorem dX10_rule_31 : decode cX10_rule 31 = .ok (.if_icmp .ne 10, 3) := by decide +kernel
theorem dX10_rule_34 : decode cX10_rule 34 = .ok (.aload_n 0, 1) := by decide +kernel
theorem dX10_rule_35 : decode cX10_rule 35 = .ok (.getfield 88, 3) := by decide +kernel
theorem dX10_rule_38 : decode cX10_rule 38 = .ok (.goto 15, 3) := by decide +kernel
theorem dX10_rule_41 : decode cX10_rule 41 = .ok (.aload_n 0, 1) := by decide +kernel
theorem dX10_rule_42 : decode cX10_rule 42 = .ok (.getfield 91, 3) := by decide +kernel
theorem dX10_rule_45 : decode cX10_rule 45 = .ok (.ifCond .eq 7, 3) := by decide +kernel
theorem dX10_rule_48 : decode cX10_rule 48 = .ok (.iconst 1, 1) := by decide +kernel
theorem dX10_rule_49 : decode cX10_rule 49 = .ok (.goto 4, 3) := by decide +kernel
theorem dX10_rule_52 : decode cX10_rule 52 = .ok (.iconst 0, 1) := by decide +kernel
theorem dX10_rule_53 : decode cX10_rule 53 = .ok (.istore_n 3, 1) := by decide +kernel
theorem dX10_rule_54 : decode cX10_rule 54 = .ok (.aload_n 0, 1) := by decide +kernel
theorem dX10_rule_55 : decode cX10_rule 55 = .ok (.iload_n 1, 1) := by decide +kernel
theorem dX10_rule_56 : decode cX10_rule 56 = .ok (.ifCond .ne 16, 3) := by decide +kernel
theorem dX10_rule_59 : decode cX10_rule 59 = .ok (.iload_n 2, 1) := by decide +kernel
theorem dX10_rule_60 : decode cX10_rule 60 = .ok (.iconst 1, 1) := by decide +kernel
theorem dX10_rule_61 : decode cX10_rule 61 = .ok (.if_icmp .ne 7, 3) := by decide +kernel
theorem dX10_rule_64 : decode cX10_rule 64 = .ok (.iconst 1, 1) := by decide +kernel
theorem dX10_rule_65 : decode cX10_rule 65 = .ok (.goto 11, 3) := by decide +kernel
theorem dX10_rule_68 : decode cX10_rule 68 = .ok (.iconst 0, 1) := by decide +kernel
theorem dX10_rule_69 : decode cX10_rule 69 = .ok (.goto 7, 3) := by decide +kernel
theorem dX10_rule_72 : decode cX10_rule 72 = .ok (.aload_n 0, 1) := by decide +kernel
theorem dX10_rule_73 : decode cX10_rule 73 = .ok (.getfield 91, 3) := by decide +kernel
theorem dX10_rule_76 : decode cX10_rule 76 = .ok (.putfield 91, 3) := by decide +kernel
theorem dX10_rule_79 : decode cX10_rule 79 = .ok (.aload_n 0, 1) := by decide +kernel
theorem dX10_rule_80 : decode cX10_rule 80 = .ok (.iload_n 1, 1) := by decide +kernel
theorem dX10_rule_81 : decode cX10_rule 81 = .ok (.iconst 1, 1) := by decide +kernel
theorem dX10_rule_82 : decode cX10_rule 82 = .ok (.if_icmp .ne 7, 3) := by decide +kernel
theorem dX10_rule_85 : decode cX10_rule 85 = .ok (.iload_n 2, 1) := by decide +kernel
theorem dX10_rule_86 : decode cX10_rule 86 = .ok (.goto 7, 3) := by decide +kernel
theorem dX10_rule_89 : decode cX10_rule 89 = .ok (.aload_n 0, 1) := by decide +kernel
theorem dX10_rule_90 : decode cX10_rule 90 = .ok (.getfield 88, 3) := by decide +kernel
theorem dX10_rule_93 : decode cX10_rule 93 = .ok (.putfield 88, 3) := by decide +kernel
theorem dX10_rule_96 : decode cX10_rule 96 = .ok (.iload_n 3, 1) := by decide +kernel
theorem dX10_rule_97 : decode cX10_rule 97 = .ok (.ireturn, 1) := by decide +kernel
theorem dX10_ask_0 : decode cX10_ask 0 = .ok (.iload_n 1, 1) := by decide +kernel
theorem dX10_ask_1 : decode cX10_ask 1 = .ok (.iconst 0, 1) := by decide +kernel
theorem dX10_ask_2 : decode cX10_ask 2 = .ok (.iconst 2, 1) := by decide +kernel
theorem dX10_ask_3 : decode cX10_ask 3 = .ok (.invokestatic 72, 3) := by decide +kernel
theorem dX10_ask_6 : decode cX10_ask 6 = .ok (.ifCond .eq 31, 3) := by decide +kernel
theorem dX10_ask_9 : decode cX10_ask 9 = .ok (.iload_n 1, 1) := by decide +kernel
theorem dX10_ask_10 : decode cX10_ask 10 = .ok (.iconst 2, 1) := by decide +kernel
theorem dX10_ask_11 : decode cX10_ask 11 = .ok (.if_icmp .ne 12, 3) := by decide +kernel
theorem dX10_ask_14 : decode cX10_ask 14 = .ok (.iload_n 2, 1) := by decide +kernel
theorem dX10_ask_15 : decode cX10_ask 15 = .ok (.iconst 2, 1) := by decide +kernel
theorem dX10_ask_16 : decode cX10_ask 16 = .ok (.iconst 5, 1) := by decide +kernel
theorem dX10_ask_17 : decode cX10_ask 17 = .ok (.invokestatic 72, 3) := by decide +kernel
theorem dX10_ask_20 : decode cX10_ask 20 = .ok (.ifCond .eq 17, 3) := by decide +kernel
theorem dX10_ask_23 : decode cX10_ask 23 = .ok (.iload_n 3, 1) := by decide +kernel
theorem dX10_ask_24 : decode cX10_ask 24 = .ok (.aload_n 0, 1) := by decide +kernel
theorem dX10_ask_25 : decode cX10_ask 25 = .ok (.getfield 94, 3) := by decide +kernel
theorem dX10_ask_28 : decode cX10_ask 28 = .ok (.if_icmp .le 9, 3) := by decide +kernel
theorem dX10_ask_31 : decode cX10_ask 31 = .ok (.iload_n 3, 1) := by decide +kernel
theorem dX10_ask_32 : decode cX10_ask 32 = .ok (.ldc 97, 2) := by decide +kernel
theorem dX10_ask_34 : decode cX10_ask 34 = .ok (.if_icmp .le 5, 3) := by decide +kernel
theorem dX10_ask_37 : decode cX10_ask 37 = .ok (.iconst (-1), 1) := by decide +kernel
theorem dX10_ask_38 : decode cX10_ask 38 = .ok (.ireturn, 1) := by decide +kernel
theorem dX10_ask_39 : decode cX10_ask 39 = .ok (.aload_n 0, 1) := by decide +kernel
theorem dX10_ask_40 : decode cX10_ask 40 = .ok (.getfield 76, 3) := by decide +kernel
theorem dX10_ask_43 : decode cX10_ask 43 = .ok (.ifCond .eq 6, 3) := by decide +kernel
theorem dX10_ask_46 : decode cX10_ask 46 = .ok (.bipush (-2), 2) := by decide +kernel
theorem dX10_ask_48 : decode cX10_ask 48 = .ok (.ireturn, 1) := by decide +kernel
theorem dX10_ask_49 : decode cX10_ask 49 = .ok (.aload_n 0, 1) := by decide +kernel
theorem dX10_ask_50 : decode cX10_ask 50 = .ok (.iconst 1, 1) := by decide +kernel
theorem dX10_ask_51 : decode cX10_ask 51 = .ok (.putfield 76, 3) := by decide +kernel
theorem dX10_ask_54 : decode cX10_ask 54 = .ok (.aload_n 0, 1) := by decide +kernel
theorem dX10_ask_55 : decode cX10_ask 55 = .ok (.iload_n 1, 1) := by decide +kernel
theorem dX10_ask_56 : decode cX10_ask 56 = .ok (.putfield 98, 3) := by decide +kernel
theorem dX10_ask_59 : decode cX10_ask 59 = .ok (.aload_n 0, 1) := by decide +kernel
theorem dX10_ask_60 : decode cX10_ask 60 = .ok (.iload_n 2, 1) := by decide +kernel
theorem dX10_ask_61 : decode cX10_ask 61 = .ok (.putfield 101, 3) := by decide +kernel
theorem dX10_ask_64 : decode cX10_ask 64 = .ok (.aload_n 0, 1) := by decide +kernel
theorem dX10_ask_65 : decode cX10_ask 65 = .ok (.iload_n 3, 1) := by decide +kernel
theorem dX10_ask_66 : decode cX10_ask 66 = .ok (.putfield 104, 3) := by decide +kernel
theorem dX10_ask_69 : decode cX10_ask 69 = .ok (.aload_n 0, 1) := by decide +kernel
theorem dX10_ask_70 : decode cX10_ask 70 = .ok (.iconst 0, 1) := by decide +kernel
theorem dX10_ask_71 : decode cX10_ask 71 = .ok (.putfield 107, 3) := by decide +kernel
theorem dX10_ask_74 : decode cX10_ask 74 = .ok (.iconst 0, 1) := by decide +kernel
theorem dX10_ask_75 : decode cX10_ask 75 = .ok (.istore 4, 2) := by decide +kernel
theorem dX10_ask_77 : decode cX10_ask 77 = .ok (.iload 4, 2) := by decide +kernel
theorem dX10_ask_79 : decode cX10_ask 79 = .ok (.bipush 16, 2) := by decide +kernel
theorem dX10_ask_81 : decode cX10_ask 81 = .ok (.if_icmp .ge 25, 3) := by decide +kernel
theorem dX10_ask_84 : decode cX10_ask 84 = .ok (.aload_n 0, 1) := by decide +kernel
theorem dX10_ask_85 : decode cX10_ask 85 = .ok (.getfield 22, 3) := by decide +kernel
theorem dX10_ask_88 : decode cX10_ask 88 = .ok (.iload 4, 2) := by decide +kernel
theorem dX10_ask_90 : decode cX10_ask 90 = .ok (.iconst 0, 1) := by decide +kernel
theorem dX10_ask_91 : decode cX10_ask 91 = .ok (.iastore, 1) := by decide +kernel
theorem dX10_ask_92 : decode cX10_ask 92 = .ok (.aload_n 0, 1) := by decide +kernel
theorem dX10_ask_93 : decode cX10_ask 93 = .ok (.getfield 31, 3) := by decide +kernel
theorem dX10_ask_96 : decode cX10_ask 96 = .ok (.iload 4, 2) := by decide +kernel
theorem dX10_ask_98 : decode cX10_ask 98 = .ok (.iconst 1, 1) := by decide +kernel
theorem dX10_ask_99 : decode cX10_ask 99 = .ok (.bastore, 1) := by decide +kernel
theorem dX10_ask_100 : decode cX10_ask 100 = .ok (.iinc 4 1, 3) := by decide +kernel
theorem dX10_ask_103 : decode cX10_ask 103 = .ok (.goto (-26), 3) := by decide +kernel
theorem dX10_ask_106 : decode cX10_ask 106 = .ok (.iconst 0, 1) := by decide +kernel
theorem dX10_ask_107 : decode cX10_ask 107 = .ok (.istore 4, 2) := by decide +kernel
theorem dX10_ask_109 : decode cX10_ask 109 = .ok (.iload 4, 2) := by decide +kernel
theorem dX10_ask_111 : decode cX10_ask 111 = .ok (.bipush 32, 2) := by decide +kernel
theorem dX10_ask_113 : decode cX10_ask 113 = .ok (.if_icmp .ge 41, 3) := by decide +kernel
theorem dX10_ask_116 : decode cX10_ask 116 = .ok (.aload_n 0, 1) := by decide +kernel
theorem dX10_ask_117 : decode cX10_ask 117 = .ok (.getfield 19, 3) := by decide +kernel
theorem dX10_ask_120 : decode cX10_ask 120 = .ok (.iload 4, 2) := by decide +kernel
theorem dX10_ask_122 : decode cX10_ask 122 = .ok (.iconst 0, 1) := by decide +kernel
theorem dX10_ask_123 : decode cX10_ask 123 = .ok (.iastore, 1) := by decide +kernel
theorem dX10_ask_124 : decode cX10_ask 124 = .ok (.aload_n 0, 1) := by decide +kernel
theorem dX10_ask_125 : decode cX10_ask 125 = .ok (.getfield 38, 3) := by decide +kernel
theorem dX10_ask_128 : decode cX10_ask 128 = .ok (.iload 4, 2) := by decide +kernel
theorem dX10_ask_130 : decode cX10_ask 130 = .ok (.iconst 0, 1) := by decide +kernel
theorem dX10_ask_131 : decode cX10_ask 131 = .ok (.iastore, 1) := by decide +kernel
theorem dX10_ask_132 : decode cX10_ask 132 = .ok (.aload_n 0, 1) := by decide +kernel
theorem dX10_ask_133 : decode cX10_ask 133 = .ok (.getfield 41, 3) := by decide +kernel
theorem dX10_ask_136 : decode cX10_ask 136 = .ok (.iload 4, 2) := by decide +kernel
theorem dX10_ask_138 : decode cX10_ask 138 = .ok (.iconst 0, 1) := by decide +kernel
theorem dX10_ask_139 : decode cX10_ask 139 = .ok (.iastore, 1) := by decide +kernel
theorem dX10_ask_140 : decode cX10_ask 140 = .ok (.aload_n 0, 1) := by decide +kernel
theorem dX10_ask_141 : decode cX10_ask 141 = .ok (.getfield 44, 3) := by decide +kernel
theorem dX10_ask_144 : decode cX10_ask 144 = .ok (.iload 4, 2) := by decide +kernel
theorem dX10_ask_146 : decode cX10_ask 146 = .ok (.iconst 0, 1) := by decide +kernel
theorem dX10_ask_147 : decode cX10_ask 147 = .ok (.iastore, 1) := by decide +kernel
theorem dX10_ask_148 : decode cX10_ask 148 = .ok (.iinc 4 1, 3) := by decide +kernel
theorem dX10_ask_151 : decode cX10_ask 151 = .ok (.goto (-42), 3) := by decide +kernel
theorem dX10_ask_154 : decode cX10_ask 154 = .ok (.iconst 0, 1) := by decide +kernel
theorem dX10_ask_155 : decode cX10_ask 155 = .ok (.ireturn, 1) := by decide +kernel
theorem dX10_isAnswer_0 : decode cX10_isAnswer 0 = .ok (.aload_n 0, 1) := by decide +kernel
theorem dX10_isAnswer_1 : decode cX10_isAnswer 1 = .ok (.getfield 98, 3) := by decide +kernel
theorem dX10_isAnswer_4 : decode cX10_isAnswer 4 = .ok (.iconst 2, 1) := by decide +kernel
theorem dX10_isAnswer_5 : decode cX10_isAnswer 5 = .ok (.if_icmp .ge 23, 3) := by decide +kernel
theorem dX10_isAnswer_8 : decode cX10_isAnswer 8 = .ok (.iload_n 1, 1) := by decide +kernel
theorem dX10_isAnswer_9 : decode cX10_isAnswer 9 = .ok (.iconst 0, 1) := by decide +kernel
theorem dX10_isAnswer_10 : decode cX10_isAnswer 10 = .ok (.aload_n 0, 1) := by decide +kernel
theorem dX10_isAnswer_11 : decode cX10_isAnswer 11 = .ok (.getfield 98, 3) := by decide +kernel
theorem dX10_isAnswer_14 : decode cX10_isAnswer 14 = .ok (.ifCond .ne 8, 3) := by decide +kernel
theorem dX10_isAnswer_17 : decode cX10_isAnswer 17 = .ok (.bipush 7, 2) := by decide +kernel
theorem dX10_isAnswer_19 : decode cX10_isAnswer 19 = .ok (.goto 5, 3) := by decide +kernel
theorem dX10_isAnswer_22 : decode cX10_isAnswer 22 = .ok (.ldc 97, 2) := by decide +kernel
theorem dX10_isAnswer_24 : decode cX10_isAnswer 24 = .ok (.invokestatic 72, 3) := by decide +kernel
theorem dX10_isAnswer_27 : decode cX10_isAnswer 27 = .ok (.ireturn, 1) := by decide +kernel
theorem dX10_isAnswer_28 : decode cX10_isAnswer 28 = .ok (.iconst 0, 1) := by decide +kernel
theorem dX10_isAnswer_29 : decode cX10_isAnswer 29 = .ok (.istore_n 2, 1) := by decide +kernel
theorem dX10_isAnswer_30 : decode cX10_isAnswer 30 = .ok (.iconst 0, 1) := by decide +kernel
theorem dX10_isAnswer_31 : decode cX10_isAnswer 31 = .ok (.istore_n 3, 1) := by decide +kernel
theorem dX10_isAnswer_32 : decode cX10_isAnswer 32 = .ok (.iload_n 3, 1) := by decide +kernel
theorem dX10_isAnswer_33 : decode cX10_isAnswer 33 = .ok (.aload_n 0, 1) := by decide +kernel
theorem dX10_isAnswer_34 : decode cX10_isAnswer 34 = .ok (.getfield 101, 3) := by decide +kernel
theorem dX10_isAnswer_37 : decode cX10_isAnswer 37 = .ok (.if_icmp .ge 22, 3) := by decide +kernel
theorem dX10_isAnswer_40 : decode cX10_isAnswer 40 = .ok (.iload_n 2, 1) := by decide +kernel
theorem dX10_isAnswer_41 : decode cX10_isAnswer 41 = .ok (.iconst 1, 1) := by decide +kernel
theorem dX10_isAnswer_42 : decode cX10_isAnswer 42 = .ok (.iload_n 1, 1) := by decide +kernel
theorem dX10_isAnswer_43 : decode cX10_isAnswer 43 = .ok (.iconst 3, 1) := by decide +kernel
theorem dX10_isAnswer_44 : decode cX10_isAnswer 44 = .ok (.iload_n 3, 1) := by decide +kernel
theorem dX10_isAnswer_45 : decode cX10_isAnswer 45 = .ok (.imul, 1) := by decide +kernel
theorem dX10_isAnswer_46 : decode cX10_isAnswer 46 = .ok (.ishr, 1) := by decide +kernel
theorem dX10_isAnswer_47 : decode cX10_isAnswer 47 = .ok (.bipush 7, 2) := by decide +kernel
theorem dX10_isAnswer_49 : decode cX10_isAnswer 49 = .ok (.iand, 1) := by decide +kernel
theorem dX10_isAnswer_50 : decode cX10_isAnswer 50 = .ok (.ishl, 1) := by decide +kernel
theorem dX10_isAnswer_51 : decode cX10_isAnswer 51 = .ok (.ior, 1) := by decide +kernel
theorem dX10_isAnswer_52 : decode cX10_isAnswer 52 = .ok (.istore_n 2, 1) := by decide +kernel
theorem dX10_isAnswer_53 : decode cX10_isAnswer 53 = .ok (.iinc 3 1, 3) := by decide +kernel
theorem dX10_isAnswer_56 : decode cX10_isAnswer 56 = .ok (.goto (-24), 3) := by decide +kernel
theorem dX10_isAnswer_59 : decode cX10_isAnswer 59 = .ok (.iload_n 1, 1) := by decide +kernel
theorem dX10_isAnswer_60 : decode cX10_isAnswer 60 = .ok (.ifCond .lt 30, 3) := by decide +kernel
theorem dX10_isAnswer_63 : decode cX10_isAnswer 63 = .ok (.iload_n 1, 1) := by decide +kernel
theorem dX10_isAnswer_64 : decode cX10_isAnswer 64 = .ok (.iconst 3, 1) := by decide +kernel
theorem dX10_isAnswer_65 : decode cX10_isAnswer 65 = .ok (.aload_n 0, 1) := by decide +kernel
theorem dX10_isAnswer_66 : decode cX10_isAnswer 66 = .ok (.getfield 101, 3) := by decide +kernel
theorem dX10_isAnswer_69 : decode cX10_isAnswer 69 = .ok (.imul, 1) := by decide +kernel
theorem dX10_isAnswer_70 : decode cX10_isAnswer 70 = .ok (.ishr, 1) := by decide +kernel
theorem dX10_isAnswer_71 : decode cX10_isAnswer 71 = .ok (.ifCond .ne 19, 3) := by decide +kernel
theorem dX10_isAnswer_74 : decode cX10_isAnswer 74 = .ok (.iload_n 2, 1) := by decide +kernel
theorem dX10_isAnswer_75 : decode cX10_isAnswer 75 = .ok (.iconst 1, 1) := by decide +kernel
theorem dX10_isAnswer_76 : decode cX10_isAnswer 76 = .ok (.aload_n 0, 1) := by decide +kernel
theorem dX10_isAnswer_77 : decode cX10_isAnswer 77 = .ok (.getfield 101, 3) := by decide +kernel
theorem dX10_isAnswer_80 : decode cX10_isAnswer 80 = .ok (.ishl, 1) := by decide +kernel
theorem dX10_isAnswer_81 : decode cX10_isAnswer 81 = .ok (.iconst 1, 1) := by decide +kernel
theorem dX10_isAnswer_82 : decode cX10_isAnswer 82 = .ok (.isub, 1) := by decide +kernel
theorem dX10_isAnswer_83 : decode cX10_isAnswer 83 = .ok (.if_icmp .ne 7, 3) := by decide +kernel
theorem dX10_isAnswer_86 : decode cX10_isAnswer 86 = .ok (.iconst 1, 1) := by decide +kernel
theorem dX10_isAnswer_87 : decode cX10_isAnswer 87 = .ok (.goto 4, 3) := by decide +kernel
theorem dX10_isAnswer_90 : decode cX10_isAnswer 90 = .ok (.iconst 0, 1) := by decide +kernel
theorem dX10_isAnswer_91 : decode cX10_isAnswer 91 = .ok (.ireturn, 1) := by decide +kernel
theorem dX10_send_0 : decode cX10_send 0 = .ok (.aload_n 0, 1) := by decide +kernel
theorem dX10_send_1 : decode cX10_send 1 = .ok (.iload_n 1, 1) := by decide +kernel
theorem dX10_send_2 : decode cX10_send 2 = .ok (.invokevirtual 80, 3) := by decide +kernel
theorem dX10_send_5 : decode cX10_send 5 = .ok (.ifCond .ne 5, 3) := by decide +kernel
theorem dX10_send_8 : decode cX10_send 8 = .ok (.iconst (-1), 1) := by decide +kernel
theorem dX10_send_9 : decode cX10_send 9 = .ok (.ireturn, 1) := by decide +kernel
theorem dX10_send_10 : decode cX10_send 10 = .ok (.aload_n 0, 1) := by decide +kernel
theorem dX10_send_11 : decode cX10_send 11 = .ok (.getfield 76, 3) := by decide +kernel
theorem dX10_send_14 : decode cX10_send 14 = .ok (.ifCond .ne 6, 3) := by decide +kernel
theorem dX10_send_17 : decode cX10_send 17 = .ok (.bipush (-2), 2) := by decide +kernel
theorem dX10_send_19 : decode cX10_send 19 = .ok (.ireturn, 1) := by decide +kernel
theorem dX10_send_20 : decode cX10_send 20 = .ok (.aload_n 0, 1) := by decide +kernel
theorem dX10_send_21 : decode cX10_send 21 = .ok (.iload_n 2, 1) := by decide +kernel
theorem dX10_send_22 : decode cX10_send 22 = .ok (.invokevirtual 110, 3) := by decide +kernel
theorem dX10_send_25 : decode cX10_send 25 = .ok (.ifCond .ne 5, 3) := by decide +kernel
theorem dX10_send_28 : decode cX10_send 28 = .ok (.iconst (-1), 1) := by decide +kernel
theorem dX10_send_29 : decode cX10_send 29 = .ok (.ireturn, 1) := by decide +kernel
theorem dX10_send_30 : decode cX10_send 30 = .ok (.aload_n 0, 1) := by decide +kernel
theorem dX10_send_31 : decode cX10_send 31 = .ok (.getfield 22, 3) := by decide +kernel
theorem dX10_send_34 : decode cX10_send 34 = .ok (.iload_n 1, 1) := by decide +kernel
theorem dX10_send_35 : decode cX10_send 35 = .ok (.dup2, 1) := by decide +kernel
theorem dX10_send_36 : decode cX10_send 36 = .ok (.iaload, 1) := by decide +kernel
theorem dX10_send_37 : decode cX10_send 37 = .ok (.iconst 1, 1) := by decide +kernel
theorem dX10_send_38 : decode cX10_send 38 = .ok (.iadd, 1) := by decide +kernel
theorem dX10_send_39 : decode cX10_send 39 = .ok (.iastore, 1) := by decide +kernel
theorem dX10_send_40 : decode cX10_send 40 = .ok (.aload_n 0, 1) := by decide +kernel
theorem dX10_send_41 : decode cX10_send 41 = .ok (.getfield 25, 3) := by decide +kernel
theorem dX10_send_44 : decode cX10_send 44 = .ok (.iload_n 1, 1) := by decide +kernel
theorem dX10_send_45 : decode cX10_send 45 = .ok (.iload_n 2, 1) := by decide +kernel
theorem dX10_send_46 : decode cX10_send 46 = .ok (.iastore, 1) := by decide +kernel
theorem dX10_send_47 : decode cX10_send 47 = .ok (.aload_n 0, 1) := by decide +kernel
theorem dX10_send_48 : decode cX10_send 48 = .ok (.getfield 28, 3) := by decide +kernel
theorem dX10_send_51 : decode cX10_send 51 = .ok (.iload_n 1, 1) := by decide +kernel
theorem dX10_send_52 : decode cX10_send 52 = .ok (.aload_n 0, 1) := by decide +kernel
theorem dX10_send_53 : decode cX10_send 53 = .ok (.getfield 94, 3) := by decide +kernel
theorem dX10_send_56 : decode cX10_send 56 = .ok (.iastore, 1) := by decide +kernel
theorem dX10_send_57 : decode cX10_send 57 = .ok (.aload_n 0, 1) := by decide +kernel
theorem dX10_send_58 : decode cX10_send 58 = .ok (.getfield 31, 3) := by decide +kernel
theorem dX10_send_61 : decode cX10_send 61 = .ok (.iload_n 1, 1) := by decide +kernel
theorem dX10_send_62 : decode cX10_send 62 = .ok (.iconst 0, 1) := by decide +kernel
theorem dX10_send_63 : decode cX10_send 63 = .ok (.bastore, 1) := by decide +kernel
theorem dX10_send_64 : decode cX10_send 64 = .ok (.aload_n 0, 1) := by decide +kernel
theorem dX10_send_65 : decode cX10_send 65 = .ok (.getfield 19, 3) := by decide +kernel
theorem dX10_send_68 : decode cX10_send 68 = .ok (.iconst 2, 1) := by decide +kernel
theorem dX10_send_69 : decode cX10_send 69 = .ok (.iload_n 1, 1) := by decide +kernel
theorem dX10_send_70 : decode cX10_send 70 = .ok (.imul, 1) := by decide +kernel
theorem dX10_send_71 : decode cX10_send 71 = .ok (.iconst 0, 1) := by decide +kernel
theorem dX10_send_72 : decode cX10_send 72 = .ok (.iastore, 1) := by decide +kernel
theorem dX10_send_73 : decode cX10_send 73 = .ok (.aload_n 0, 1) := by decide +kernel
theorem dX10_send_74 : decode cX10_send 74 = .ok (.getfield 19, 3) := by decide +kernel
theorem dX10_send_77 : decode cX10_send 77 = .ok (.iconst 2, 1) := by decide +kernel
theorem dX10_send_78 : decode cX10_send 78 = .ok (.iload_n 1, 1) := by decide +kernel
theorem dX10_send_79 : decode cX10_send 79 = .ok (.imul, 1) := by decide +kernel
theorem dX10_send_80 : decode cX10_send 80 = .ok (.iconst 1, 1) := by decide +kernel
theorem dX10_send_81 : decode cX10_send 81 = .ok (.iadd, 1) := by decide +kernel
theorem dX10_send_82 : decode cX10_send 82 = .ok (.iconst 0, 1) := by decide +kernel
theorem dX10_send_83 : decode cX10_send 83 = .ok (.iastore, 1) := by decide +kernel
theorem dX10_send_84 : decode cX10_send 84 = .ok (.aload_n 0, 1) := by decide +kernel
theorem dX10_send_85 : decode cX10_send 85 = .ok (.getfield 22, 3) := by decide +kernel
theorem dX10_send_88 : decode cX10_send 88 = .ok (.iload_n 1, 1) := by decide +kernel
theorem dX10_send_89 : decode cX10_send 89 = .ok (.iaload, 1) := by decide +kernel
theorem dX10_send_90 : decode cX10_send 90 = .ok (.ireturn, 1) := by decide +kernel
theorem dX10_tryBy_0 : decode cX10_tryBy 0 = .ok (.aload_n 0, 1) := by decide +kernel
theorem dX10_tryBy_1 : decode cX10_tryBy 1 = .ok (.getfield 19, 3) := by decide +kernel
theorem dX10_tryBy_4 : decode cX10_tryBy 4 = .ok (.iload_n 1, 1) := by decide +kernel
theorem dX10_tryBy_5 : decode cX10_tryBy 5 = .ok (.iaload, 1) := by decide +kernel
theorem dX10_tryBy_6 : decode cX10_tryBy 6 = .ok (.iconst 5, 1) := by decide +kernel
theorem dX10_tryBy_7 : decode cX10_tryBy 7 = .ok (.if_icmp .ne 4, 3) := by decide +kernel
theorem dX10_tryBy_10 : decode cX10_tryBy 10 = .ok (.return_, 1) := by decide +kernel
theorem dX10_tryBy_11 : decode cX10_tryBy 11 = .ok (.aload_n 0, 1) := by decide +kernel
theorem dX10_tryBy_12 : decode cX10_tryBy 12 = .ok (.getfield 19, 3) := by decide +kernel
theorem dX10_tryBy_15 : decode cX10_tryBy 15 = .ok (.iload_n 1, 1) := by decide +kernel
theorem dX10_tryBy_16 : decode cX10_tryBy 16 = .ok (.dup2, 1) := by decide +kernel
theorem dX10_tryBy_17 : decode cX10_tryBy 17 = .ok (.iaload, 1) := by decide +kernel
theorem dX10_tryBy_18 : decode cX10_tryBy 18 = .ok (.iconst 1, 1) := by decide +kernel
theorem dX10_tryBy_19 : decode cX10_tryBy 19 = .ok (.iadd, 1) := by decide +kernel
theorem dX10_tryBy_20 : decode cX10_tryBy 20 = .ok (.iastore, 1) := by decide +kernel
theorem dX10_tryBy_21 : decode cX10_tryBy 21 = .ok (.aload_n 0, 1) := by decide +kernel
theorem dX10_tryBy_22 : decode cX10_tryBy 22 = .ok (.dup, 1) := by decide +kernel
theorem dX10_tryBy_23 : decode cX10_tryBy 23 = .ok (.getfield 113, 3) := by decide +kernel
theorem dX10_tryBy_26 : decode cX10_tryBy 26 = .ok (.iconst 1, 1) := by decide +kernel
theorem dX10_tryBy_27 : decode cX10_tryBy 27 = .ok (.iadd, 1) := by decide +kernel
theorem dX10_tryBy_28 : decode cX10_tryBy 28 = .ok (.putfield 113, 3) := by decide +kernel
theorem dX10_tryBy_31 : decode cX10_tryBy 31 = .ok (.aload_n 0, 1) := by decide +kernel
theorem dX10_tryBy_32 : decode cX10_tryBy 32 = .ok (.getfield 7, 3) := by decide +kernel
theorem dX10_tryBy_35 : decode cX10_tryBy 35 = .ok (.iload_n 1, 1) := by decide +kernel
theorem dX10_tryBy_36 : decode cX10_tryBy 36 = .ok (.iaload, 1) := by decide +kernel
theorem dX10_tryBy_37 : decode cX10_tryBy 37 = .ok (.aload_n 0, 1) := by decide +kernel
theorem dX10_tryBy_38 : decode cX10_tryBy 38 = .ok (.getfield 16, 3) := by decide +kernel
theorem dX10_tryBy_41 : decode cX10_tryBy 41 = .ok (.iload_n 1, 1) := by decide +kernel
theorem dX10_tryBy_42 : decode cX10_tryBy 42 = .ok (.iaload, 1) := by decide +kernel
theorem dX10_tryBy_43 : decode cX10_tryBy 43 = .ok (.ishr, 1) := by decide +kernel
theorem dX10_tryBy_44 : decode cX10_tryBy 44 = .ok (.iconst 1, 1) := by decide +kernel
theorem dX10_tryBy_45 : decode cX10_tryBy 45 = .ok (.iand, 1) := by decide +kernel
theorem dX10_tryBy_46 : decode cX10_tryBy 46 = .ok (.iconst 1, 1) := by decide +kernel
theorem dX10_tryBy_47 : decode cX10_tryBy 47 = .ok (.if_icmp .ne 7, 3) := by decide +kernel
theorem dX10_tryBy_50 : decode cX10_tryBy 50 = .ok (.iconst 1, 1) := by decide +kernel
theorem dX10_tryBy_51 : decode cX10_tryBy 51 = .ok (.goto 4, 3) := by decide +kernel
theorem dX10_tryBy_54 : decode cX10_tryBy 54 = .ok (.iconst 0, 1) := by decide +kernel
theorem dX10_tryBy_55 : decode cX10_tryBy 55 = .ok (.istore_n 2, 1) := by decide +kernel
theorem dX10_tryBy_56 : decode cX10_tryBy 56 = .ok (.aload_n 0, 1) := by decide +kernel
theorem dX10_tryBy_57 : decode cX10_tryBy 57 = .ok (.getfield 16, 3) := by decide +kernel
theorem dX10_tryBy_60 : decode cX10_tryBy 60 = .ok (.iload_n 1, 1) := by decide +kernel
theorem dX10_tryBy_61 : decode cX10_tryBy 61 = .ok (.aload_n 0, 1) := by decide +kernel
theorem dX10_tryBy_62 : decode cX10_tryBy 62 = .ok (.getfield 16, 3) := by decide +kernel
theorem dX10_tryBy_65 : decode cX10_tryBy 65 = .ok (.iload_n 1, 1) := by decide +kernel
theorem dX10_tryBy_66 : decode cX10_tryBy 66 = .ok (.iaload, 1) := by decide +kernel
theorem dX10_tryBy_67 : decode cX10_tryBy 67 = .ok (.iconst 1, 1) := by decide +kernel
theorem dX10_tryBy_68 : decode cX10_tryBy 68 = .ok (.iadd, 1) := by decide +kernel
theorem dX10_tryBy_69 : decode cX10_tryBy 69 = .ok (.bipush 16, 2) := by decide +kernel
theorem dX10_tryBy_71 : decode cX10_tryBy 71 = .ok (.irem, 1) := by decide +kernel
theorem dX10_tryBy_72 : decode cX10_tryBy 72 = .ok (.iastore, 1) := by decide +kernel
theorem dX10_tryBy_73 : decode cX10_tryBy 73 = .ok (.iload_n 2, 1) := by decide +kernel
theorem dX10_tryBy_74 : decode cX10_tryBy 74 = .ok (.ifCond .ne 94, 3) := by decide +kernel
theorem dX10_tryBy_77 : decode cX10_tryBy 77 = .ok (.aload_n 0, 1) := by decide +kernel
theorem dX10_tryBy_78 : decode cX10_tryBy 78 = .ok (.getfield 47, 3) := by decide +kernel
theorem dX10_tryBy_81 : decode cX10_tryBy 81 = .ok (.aload_n 0, 1) := by decide +kernel
theorem dX10_tryBy_82 : decode cX10_tryBy 82 = .ok (.getfield 107, 3) := by decide +kernel
theorem dX10_tryBy_85 : decode cX10_tryBy 85 = .ok (.aload_n 0, 1) := by decide +kernel
theorem dX10_tryBy_86 : decode cX10_tryBy 86 = .ok (.getfield 94, 3) := by decide +kernel
theorem dX10_tryBy_89 : decode cX10_tryBy 89 = .ok (.aload_n 0, 1) := by decide +kernel
theorem dX10_tryBy_90 : decode cX10_tryBy 90 = .ok (.getfield 13, 3) := by decide +kernel
theorem dX10_tryBy_93 : decode cX10_tryBy 93 = .ok (.iload_n 1, 1) := by decide +kernel
theorem dX10_tryBy_94 : decode cX10_tryBy 94 = .ok (.iaload, 1) := by decide +kernel
theorem dX10_tryBy_95 : decode cX10_tryBy 95 = .ok (.iadd, 1) := by decide +kernel
theorem dX10_tryBy_96 : decode cX10_tryBy 96 = .ok (.iastore, 1) := by decide +kernel
theorem dX10_tryBy_97 : decode cX10_tryBy 97 = .ok (.aload_n 0, 1) := by decide +kernel
theorem dX10_tryBy_98 : decode cX10_tryBy 98 = .ok (.getfield 50, 3) := by decide +kernel
theorem dX10_tryBy_101 : decode cX10_tryBy 101 = .ok (.aload_n 0, 1) := by decide +kernel
theorem dX10_tryBy_102 : decode cX10_tryBy 102 = .ok (.getfield 107, 3) := by decide +kernel
theorem dX10_tryBy_105 : decode cX10_tryBy 105 = .ok (.iload_n 1, 1) := by decide +kernel
theorem dX10_tryBy_106 : decode cX10_tryBy 106 = .ok (.iastore, 1) := by decide +kernel
theorem dX10_tryBy_107 : decode cX10_tryBy 107 = .ok (.aload_n 0, 1) := by decide +kernel
theorem dX10_tryBy_108 : decode cX10_tryBy 108 = .ok (.getfield 53, 3) := by decide +kernel
theorem dX10_tryBy_111 : decode cX10_tryBy 111 = .ok (.aload_n 0, 1) := by decide +kernel
theorem dX10_tryBy_112 : decode cX10_tryBy 112 = .ok (.getfield 107, 3) := by decide +kernel
theorem dX10_tryBy_115 : decode cX10_tryBy 115 = .ok (.aload_n 0, 1) := by decide +kernel
theorem dX10_tryBy_116 : decode cX10_tryBy 116 = .ok (.getfield 22, 3) := by decide +kernel
theorem dX10_tryBy_119 : decode cX10_tryBy 119 = .ok (.iload_n 1, 1) := by decide +kernel
theorem dX10_tryBy_120 : decode cX10_tryBy 120 = .ok (.iconst 2, 1) := by decide +kernel
theorem dX10_tryBy_121 : decode cX10_tryBy 121 = .ok (.idiv, 1) := by decide +kernel
theorem dX10_tryBy_122 : decode cX10_tryBy 122 = .ok (.iaload, 1) := by decide +kernel
theorem dX10_tryBy_123 : decode cX10_tryBy 123 = .ok (.iastore, 1) := by decide +kernel
theorem dX10_tryBy_124 : decode cX10_tryBy 124 = .ok (.aload_n 0, 1) := by decide +kernel
theorem dX10_tryBy_125 : decode cX10_tryBy 125 = .ok (.getfield 56, 3) := by decide +kernel
theorem dX10_tryBy_128 : decode cX10_tryBy 128 = .ok (.aload_n 0, 1) := by decide +kernel
theorem dX10_tryBy_129 : decode cX10_tryBy 129 = .ok (.getfield 107, 3) := by decide +kernel
theorem dX10_tryBy_132 : decode cX10_tryBy 132 = .ok (.aload_n 0, 1) := by decide +kernel
theorem dX10_tryBy_133 : decode cX10_tryBy 133 = .ok (.getfield 25, 3) := by decide +kernel
theorem dX10_tryBy_136 : decode cX10_tryBy 136 = .ok (.iload_n 1, 1) := by decide +kernel
theorem dX10_tryBy_137 : decode cX10_tryBy 137 = .ok (.iconst 2, 1) := by decide +kernel
theorem dX10_tryBy_138 : decode cX10_tryBy 138 = .ok (.idiv, 1) := by decide +kernel
theorem dX10_tryBy_139 : decode cX10_tryBy 139 = .ok (.iaload, 1) := by decide +kernel
theorem dX10_tryBy_140 : decode cX10_tryBy 140 = .ok (.iastore, 1) := by decide +kernel
theorem dX10_tryBy_141 : decode cX10_tryBy 141 = .ok (.aload_n 0, 1) := by decide +kernel
theorem dX10_tryBy_142 : decode cX10_tryBy 142 = .ok (.getfield 59, 3) := by decide +kernel
theorem dX10_tryBy_145 : decode cX10_tryBy 145 = .ok (.aload_n 0, 1) := by decide +kernel
theorem dX10_tryBy_146 : decode cX10_tryBy 146 = .ok (.getfield 107, 3) := by decide +kernel
theorem dX10_tryBy_149 : decode cX10_tryBy 149 = .ok (.aload_n 0, 1) := by decide +kernel
theorem dX10_tryBy_150 : decode cX10_tryBy 150 = .ok (.getfield 28, 3) := by decide +kernel
theorem dX10_tryBy_153 : decode cX10_tryBy 153 = .ok (.iload_n 1, 1) := by decide +kernel
theorem dX10_tryBy_154 : decode cX10_tryBy 154 = .ok (.iconst 2, 1) := by decide +kernel
theorem dX10_tryBy_155 : decode cX10_tryBy 155 = .ok (.idiv, 1) := by decide +kernel
theorem dX10_tryBy_156 : decode cX10_tryBy 156 = .ok (.iaload, 1) := by decide +kernel
theorem dX10_tryBy_157 : decode cX10_tryBy 157 = .ok (.iastore, 1) := by decide +kernel
theorem dX10_tryBy_158 : decode cX10_tryBy 158 = .ok (.aload_n 0, 1) := by decide +kernel
theorem dX10_tryBy_159 : decode cX10_tryBy 159 = .ok (.dup, 1) := by decide +kernel
theorem dX10_tryBy_160 : decode cX10_tryBy 160 = .ok (.getfield 107, 3) := by decide +kernel
theorem dX10_tryBy_163 : decode cX10_tryBy 163 = .ok (.iconst 1, 1) := by decide +kernel
theorem dX10_tryBy_164 : decode cX10_tryBy 164 = .ok (.iadd, 1) := by decide +kernel
theorem dX10_tryBy_165 : decode cX10_tryBy 165 = .ok (.putfield 107, 3) := by decide +kernel
theorem dX10_tryBy_168 : decode cX10_tryBy 168 = .ok (.return_, 1) := by decide +kernel
theorem dX10_comes_0 : decode cX10_comes 0 = .ok (.aload_n 0, 1) := by decide +kernel
theorem dX10_comes_1 : decode cX10_comes 1 = .ok (.getfield 50, 3) := by decide +kernel
theorem dX10_comes_4 : decode cX10_comes 4 = .ok (.iload_n 1, 1) := by decide +kernel
theorem dX10_comes_5 : decode cX10_comes 5 = .ok (.iaload, 1) := by decide +kernel
theorem dX10_comes_6 : decode cX10_comes 6 = .ok (.istore_n 2, 1) := by decide +kernel
theorem dX10_comes_7 : decode cX10_comes 7 = .ok (.aload_n 0, 1) := by decide +kernel
theorem dX10_comes_8 : decode cX10_comes 8 = .ok (.getfield 53, 3) := by decide +kernel
theorem dX10_comes_11 : decode cX10_comes 11 = .ok (.iload_n 1, 1) := by decide +kernel
theorem dX10_comes_12 : decode cX10_comes 12 = .ok (.iaload, 1) := by decide +kernel
theorem dX10_comes_13 : decode cX10_comes 13 = .ok (.istore_n 3, 1) := by decide +kernel
theorem dX10_comes_14 : decode cX10_comes 14 = .ok (.aload_n 0, 1) := by decide +kernel
theorem dX10_comes_15 : decode cX10_comes 15 = .ok (.getfield 44, 3) := by decide +kernel
theorem dX10_comes_18 : decode cX10_comes 18 = .ok (.iload_n 2, 1) := by decide +kernel
theorem dX10_comes_19 : decode cX10_comes 19 = .ok (.iload_n 3, 1) := by decide +kernel
theorem dX10_comes_20 : decode cX10_comes 20 = .ok (.aload_n 0, 1) := by decide +kernel
theorem dX10_comes_21 : decode cX10_comes 21 = .ok (.getfield 44, 3) := by decide +kernel
theorem dX10_comes_24 : decode cX10_comes 24 = .ok (.iload_n 2, 1) := by decide +kernel
theorem dX10_comes_25 : decode cX10_comes 25 = .ok (.iaload, 1) := by decide +kernel
theorem dX10_comes_26 : decode cX10_comes 26 = .ok (.if_icmp .le 7, 3) := by decide +kernel
theorem dX10_comes_29 : decode cX10_comes 29 = .ok (.iload_n 3, 1) := by decide +kernel
theorem dX10_comes_30 : decode cX10_comes 30 = .ok (.goto 9, 3) := by decide +kernel
theorem dX10_comes_33 : decode cX10_comes 33 = .ok (.aload_n 0, 1) := by decide +kernel
theorem dX10_comes_34 : decode cX10_comes 34 = .ok (.getfield 44, 3) := by decide +kernel
theorem dX10_comes_37 : decode cX10_comes 37 = .ok (.iload_n 2, 1) := by decide +kernel
theorem dX10_comes_38 : decode cX10_comes 38 = .ok (.iaload, 1) := by decide +kernel
theorem dX10_comes_39 : decode cX10_comes 39 = .ok (.iastore, 1) := by decide +kernel
theorem dX10_comes_40 : decode cX10_comes 40 = .ok (.aload_n 0, 1) := by decide +kernel
theorem dX10_comes_41 : decode cX10_comes 41 = .ok (.getfield 59, 3) := by decide +kernel
theorem dX10_comes_44 : decode cX10_comes 44 = .ok (.iload_n 1, 1) := by decide +kernel
theorem dX10_comes_45 : decode cX10_comes 45 = .ok (.iaload, 1) := by decide +kernel
theorem dX10_comes_46 : decode cX10_comes 46 = .ok (.aload_n 0, 1) := by decide +kernel
theorem dX10_comes_47 : decode cX10_comes 47 = .ok (.getfield 104, 3) := by decide +kernel
theorem dX10_comes_50 : decode cX10_comes 50 = .ok (.if_icmp .ge 35, 3) := by decide +kernel
theorem dX10_comes_53 : decode cX10_comes 53 = .ok (.iload_n 3, 1) := by decide +kernel
theorem dX10_comes_54 : decode cX10_comes 54 = .ok (.aload_n 0, 1) := by decide +kernel
theorem dX10_comes_55 : decode cX10_comes 55 = .ok (.getfield 38, 3) := by decide +kernel
theorem dX10_comes_58 : decode cX10_comes 58 = .ok (.iload_n 2, 1) := by decide +kernel
theorem dX10_comes_59 : decode cX10_comes 59 = .ok (.iaload, 1) := by decide +kernel
theorem dX10_comes_60 : decode cX10_comes 60 = .ok (.if_icmp .le 51, 3) := by decide +kernel
theorem dX10_comes_63 : decode cX10_comes 63 = .ok (.aload_n 0, 1) := by decide +kernel
theorem dX10_comes_64 : decode cX10_comes 64 = .ok (.getfield 38, 3) := by decide +kernel
theorem dX10_comes_67 : decode cX10_comes 67 = .ok (.iload_n 2, 1) := by decide +kernel
theorem dX10_comes_68 : decode cX10_comes 68 = .ok (.iload_n 3, 1) := by decide +kernel
theorem dX10_comes_69 : decode cX10_comes 69 = .ok (.iastore, 1) := by decide +kernel
theorem dX10_comes_70 : decode cX10_comes 70 = .ok (.aload_n 0, 1) := by decide +kernel
theorem dX10_comes_71 : decode cX10_comes 71 = .ok (.getfield 35, 3) := by decide +kernel
theorem dX10_comes_74 : decode cX10_comes 74 = .ok (.iload_n 2, 1) := by decide +kernel
theorem dX10_comes_75 : decode cX10_comes 75 = .ok (.aload_n 0, 1) := by decide +kernel
theorem dX10_comes_76 : decode cX10_comes 76 = .ok (.getfield 56, 3) := by decide +kernel
theorem dX10_comes_79 : decode cX10_comes 79 = .ok (.iload_n 1, 1) := by decide +kernel
theorem dX10_comes_80 : decode cX10_comes 80 = .ok (.iaload, 1) := by decide +kernel
theorem dX10_comes_81 : decode cX10_comes 81 = .ok (.iastore, 1) := by decide +kernel
theorem dX10_comes_82 : decode cX10_comes 82 = .ok (.goto 29, 3) := by decide +kernel
theorem dX10_comes_85 : decode cX10_comes 85 = .ok (.aload_n 0, 1) := by decide +kernel
theorem dX10_comes_86 : decode cX10_comes 86 = .ok (.getfield 41, 3) := by decide +kernel
theorem dX10_comes_89 : decode cX10_comes 89 = .ok (.iload_n 2, 1) := by decide +kernel
theorem dX10_comes_90 : decode cX10_comes 90 = .ok (.iload_n 3, 1) := by decide +kernel
theorem dX10_comes_91 : decode cX10_comes 91 = .ok (.aload_n 0, 1) := by decide +kernel
theorem dX10_comes_92 : decode cX10_comes 92 = .ok (.getfield 41, 3) := by decide +kernel
theorem dX10_comes_95 : decode cX10_comes 95 = .ok (.iload_n 2, 1) := by decide +kernel
theorem dX10_comes_96 : decode cX10_comes 96 = .ok (.iaload, 1) := by decide +kernel
theorem dX10_comes_97 : decode cX10_comes 97 = .ok (.if_icmp .le 7, 3) := by decide +kernel
theorem dX10_comes_100 : decode cX10_comes 100 = .ok (.iload_n 3, 1) := by decide +kernel
theorem dX10_comes_101 : decode cX10_comes 101 = .ok (.goto 9, 3) := by decide +kernel
theorem dX10_comes_104 : decode cX10_comes 104 = .ok (.aload_n 0, 1) := by decide +kernel
theorem dX10_comes_105 : decode cX10_comes 105 = .ok (.getfield 41, 3) := by decide +kernel
theorem dX10_comes_108 : decode cX10_comes 108 = .ok (.iload_n 2, 1) := by decide +kernel
theorem dX10_comes_109 : decode cX10_comes 109 = .ok (.iaload, 1) := by decide +kernel
theorem dX10_comes_110 : decode cX10_comes 110 = .ok (.iastore, 1) := by decide +kernel
theorem dX10_comes_111 : decode cX10_comes 111 = .ok (.iload_n 3, 1) := by decide +kernel
theorem dX10_comes_112 : decode cX10_comes 112 = .ok (.aload_n 0, 1) := by decide +kernel
theorem dX10_comes_113 : decode cX10_comes 113 = .ok (.getfield 22, 3) := by decide +kernel
theorem dX10_comes_116 : decode cX10_comes 116 = .ok (.iload_n 2, 1) := by decide +kernel
theorem dX10_comes_117 : decode cX10_comes 117 = .ok (.iconst 2, 1) := by decide +kernel
theorem dX10_comes_118 : decode cX10_comes 118 = .ok (.idiv, 1) := by decide +kernel
theorem dX10_comes_119 : decode cX10_comes 119 = .ok (.iaload, 1) := by decide +kernel
theorem dX10_comes_120 : decode cX10_comes 120 = .ok (.if_icmp .ne 12, 3) := by decide +kernel
theorem dX10_comes_123 : decode cX10_comes 123 = .ok (.aload_n 0, 1) := by decide +kernel
theorem dX10_comes_124 : decode cX10_comes 124 = .ok (.getfield 31, 3) := by decide +kernel
theorem dX10_comes_127 : decode cX10_comes 127 = .ok (.iload_n 2, 1) := by decide +kernel
theorem dX10_comes_128 : decode cX10_comes 128 = .ok (.iconst 2, 1) := by decide +kernel
theorem dX10_comes_129 : decode cX10_comes 129 = .ok (.idiv, 1) := by decide +kernel
theorem dX10_comes_130 : decode cX10_comes 130 = .ok (.iconst 1, 1) := by decide +kernel
theorem dX10_comes_131 : decode cX10_comes 131 = .ok (.bastore, 1) := by decide +kernel
theorem dX10_comes_132 : decode cX10_comes 132 = .ok (.return_, 1) := by decide +kernel
theorem dX10_passes_0 : decode cX10_passes 0 = .ok (.iconst 0, 1) := by decide +kernel
theorem dX10_passes_1 : decode cX10_passes 1 = .ok (.istore_n 1, 1) := by decide +kernel
theorem dX10_passes_2 : decode cX10_passes 2 = .ok (.iload_n 1, 1) := by decide +kernel
theorem dX10_passes_3 : decode cX10_passes 3 = .ok (.aload_n 0, 1) := by decide +kernel
theorem dX10_passes_4 : decode cX10_passes 4 = .ok (.getfield 68, 3) := by decide +kernel
theorem dX10_passes_7 : decode cX10_passes 7 = .ok (.if_icmp .ge 41, 3) := by decide +kernel
theorem dX10_passes_10 : decode cX10_passes 10 = .ok (.aload_n 0, 1) := by decide +kernel
theorem dX10_passes_11 : decode cX10_passes 11 = .ok (.getfield 76, 3) := by decide +kernel
theorem dX10_passes_14 : decode cX10_passes 14 = .ok (.ifCond .eq 34, 3) := by decide +kernel
theorem dX10_passes_17 : decode cX10_passes 17 = .ok (.aload_n 0, 1) := by decide +kernel
theorem dX10_passes_18 : decode cX10_passes 18 = .ok (.getfield 31, 3) := by decide +kernel
theorem dX10_passes_21 : decode cX10_passes 21 = .ok (.iload_n 1, 1) := by decide +kernel
theorem dX10_passes_22 : decode cX10_passes 22 = .ok (.baload, 1) := by decide +kernel
theorem dX10_passes_23 : decode cX10_passes 23 = .ok (.ifCond .ne 19, 3) := by decide +kernel
theorem dX10_passes_26 : decode cX10_passes 26 = .ok (.aload_n 0, 1) := by decide +kernel
theorem dX10_passes_27 : decode cX10_passes 27 = .ok (.iconst 2, 1) := by decide +kernel
theorem dX10_passes_28 : decode cX10_passes 28 = .ok (.iload_n 1, 1) := by decide +kernel
theorem dX10_passes_29 : decode cX10_passes 29 = .ok (.imul, 1) := by decide +kernel
theorem dX10_passes_30 : decode cX10_passes 30 = .ok (.invokevirtual 116, 3) := by decide +kernel
theorem dX10_passes_33 : decode cX10_passes 33 = .ok (.aload_n 0, 1) := by decide +kernel
theorem dX10_passes_34 : decode cX10_passes 34 = .ok (.iconst 2, 1) := by decide +kernel
theorem dX10_passes_35 : decode cX10_passes 35 = .ok (.iload_n 1, 1) := by decide +kernel
theorem dX10_passes_36 : decode cX10_passes 36 = .ok (.imul, 1) := by decide +kernel
theorem dX10_passes_37 : decode cX10_passes 37 = .ok (.iconst 1, 1) := by decide +kernel
theorem dX10_passes_38 : decode cX10_passes 38 = .ok (.iadd, 1) := by decide +kernel
theorem dX10_passes_39 : decode cX10_passes 39 = .ok (.invokevirtual 116, 3) := by decide +kernel
theorem dX10_passes_42 : decode cX10_passes 42 = .ok (.iinc 1 1, 3) := by decide +kernel
theorem dX10_passes_45 : decode cX10_passes 45 = .ok (.goto (-43), 3) := by decide +kernel
theorem dX10_passes_48 : decode cX10_passes 48 = .ok (.iconst 0, 1) := by decide +kernel
theorem dX10_passes_49 : decode cX10_passes 49 = .ok (.istore_n 1, 1) := by decide +kernel
theorem dX10_passes_50 : decode cX10_passes 50 = .ok (.iconst 0, 1) := by decide +kernel
theorem dX10_passes_51 : decode cX10_passes 51 = .ok (.istore_n 2, 1) := by decide +kernel
theorem dX10_passes_52 : decode cX10_passes 52 = .ok (.iload_n 2, 1) := by decide +kernel
theorem dX10_passes_53 : decode cX10_passes 53 = .ok (.aload_n 0, 1) := by decide +kernel
theorem dX10_passes_54 : decode cX10_passes 54 = .ok (.getfield 107, 3) := by decide +kernel
theorem dX10_passes_57 : decode cX10_passes 57 = .ok (.if_icmp .ge 93, 3) := by decide +kernel
theorem dX10_passes_60 : decode cX10_passes 60 = .ok (.aload_n 0, 1) := by decide +kernel
theorem dX10_passes_61 : decode cX10_passes 61 = .ok (.getfield 47, 3) := by decide +kernel
theorem dX10_passes_64 : decode cX10_passes 64 = .ok (.iload_n 2, 1) := by decide +kernel
theorem dX10_passes_65 : decode cX10_passes 65 = .ok (.iaload, 1) := by decide +kernel
theorem dX10_passes_66 : decode cX10_passes 66 = .ok (.aload_n 0, 1) := by decide +kernel
theorem dX10_passes_67 : decode cX10_passes 67 = .ok (.getfield 94, 3) := by decide +kernel
theorem dX10_passes_70 : decode cX10_passes 70 = .ok (.if_icmp .ne 11, 3) := by decide +kernel
theorem dX10_passes_73 : decode cX10_passes 73 = .ok (.aload_n 0, 1) := by decide +kernel
theorem dX10_passes_74 : decode cX10_passes 74 = .ok (.iload_n 2, 1) := by decide +kernel
theorem dX10_passes_75 : decode cX10_passes 75 = .ok (.invokevirtual 120, 3) := by decide +kernel
theorem dX10_passes_78 : decode cX10_passes 78 = .ok (.goto 66, 3) := by decide +kernel
theorem dX10_passes_81 : decode cX10_passes 81 = .ok (.aload_n 0, 1) := by decide +kernel
theorem dX10_passes_82 : decode cX10_passes 82 = .ok (.getfield 47, 3) := by decide +kernel
theorem dX10_passes_85 : decode cX10_passes 85 = .ok (.iload_n 1, 1) := by decide +kernel
theorem dX10_passes_86 : decode cX10_passes 86 = .ok (.aload_n 0, 1) := by decide +kernel
theorem dX10_passes_87 : decode cX10_passes 87 = .ok (.getfield 47, 3) := by decide +kernel
theorem dX10_passes_90 : decode cX10_passes 90 = .ok (.iload_n 2, 1) := by decide +kernel
theorem dX10_passes_91 : decode cX10_passes 91 = .ok (.iaload, 1) := by decide +kernel
theorem dX10_passes_92 : decode cX10_passes 92 = .ok (.iastore, 1) := by decide +kernel
theorem dX10_passes_93 : decode cX10_passes 93 = .ok (.aload_n 0, 1) := by decide +kernel
theorem dX10_passes_94 : decode cX10_passes 94 = .ok (.getfield 50, 3) := by decide +kernel
theorem dX10_passes_97 : decode cX10_passes 97 = .ok (.iload_n 1, 1) := by decide +kernel
theorem dX10_passes_98 : decode cX10_passes 98 = .ok (.aload_n 0, 1) := by decide +kernel
theorem dX10_passes_99 : decode cX10_passes 99 = .ok (.getfield 50, 3) := by decide +kernel
theorem dX10_passes_102 : decode cX10_passes 102 = .ok (.iload_n 2, 1) := by decide +kernel
theorem dX10_passes_103 : decode cX10_passes 103 = .ok (.iaload, 1) := by decide +kernel
theorem dX10_passes_104 : decode cX10_passes 104 = .ok (.iastore, 1) := by decide +kernel
theorem dX10_passes_105 : decode cX10_passes 105 = .ok (.aload_n 0, 1) := by decide +kernel
theorem dX10_passes_106 : decode cX10_passes 106 = .ok (.getfield 53, 3) := by decide +kernel
theorem dX10_passes_109 : decode cX10_passes 109 = .ok (.iload_n 1, 1) := by decide +kernel
theorem dX10_passes_110 : decode cX10_passes 110 = .ok (.aload_n 0, 1) := by decide +kernel
theorem dX10_passes_111 : decode cX10_passes 111 = .ok (.getfield 53, 3) := by decide +kernel
theorem dX10_passes_114 : decode cX10_passes 114 = .ok (.iload_n 2, 1) := by decide +kernel
theorem dX10_passes_115 : decode cX10_passes 115 = .ok (.iaload, 1) := by decide +kernel
theorem dX10_passes_116 : decode cX10_passes 116 = .ok (.iastore, 1) := by decide +kernel
theorem dX10_passes_117 : decode cX10_passes 117 = .ok (.aload_n 0, 1) := by decide +kernel
theorem dX10_passes_118 : decode cX10_passes 118 = .ok (.getfield 56, 3) := by decide +kernel
theorem dX10_passes_121 : decode cX10_passes 121 = .ok (.iload_n 1, 1) := by decide +kernel
theorem dX10_passes_122 : decode cX10_passes 122 = .ok (.aload_n 0, 1) := by decide +kernel
theorem dX10_passes_123 : decode cX10_passes 123 = .ok (.getfield 56, 3) := by decide +kernel
theorem dX10_passes_126 : decode cX10_passes 126 = .ok (.iload_n 2, 1) := by decide +kernel
theorem dX10_passes_127 : decode cX10_passes 127 = .ok (.iaload, 1) := by decide +kernel
theorem dX10_passes_128 : decode cX10_passes 128 = .ok (.iastore, 1) := by decide +kernel
theorem dX10_passes_129 : decode cX10_passes 129 = .ok (.aload_n 0, 1) := by decide +kernel
theorem dX10_passes_130 : decode cX10_passes 130 = .ok (.getfield 59, 3) := by decide +kernel
theorem dX10_passes_133 : decode cX10_passes 133 = .ok (.iload_n 1, 1) := by decide +kernel
theorem dX10_passes_134 : decode cX10_passes 134 = .ok (.aload_n 0, 1) := by decide +kernel
theorem dX10_passes_135 : decode cX10_passes 135 = .ok (.getfield 59, 3) := by decide +kernel
theorem dX10_passes_138 : decode cX10_passes 138 = .ok (.iload_n 2, 1) := by decide +kernel
theorem dX10_passes_139 : decode cX10_passes 139 = .ok (.iaload, 1) := by decide +kernel
theorem dX10_passes_140 : decode cX10_passes 140 = .ok (.iastore, 1) := by decide +kernel
theorem dX10_passes_141 : decode cX10_passes 141 = .ok (.iinc 1 1, 3) := by decide +kernel
theorem dX10_passes_144 : decode cX10_passes 144 = .ok (.iinc 2 1, 3) := by decide +kernel
theorem dX10_passes_147 : decode cX10_passes 147 = .ok (.goto (-95), 3) := by decide +kernel
theorem dX10_passes_150 : decode cX10_passes 150 = .ok (.aload_n 0, 1) := by decide +kernel
theorem dX10_passes_151 : decode cX10_passes 151 = .ok (.iload_n 1, 1) := by decide +kernel
theorem dX10_passes_152 : decode cX10_passes 152 = .ok (.putfield 107, 3) := by decide +kernel
theorem dX10_passes_155 : decode cX10_passes 155 = .ok (.aload_n 0, 1) := by decide +kernel
theorem dX10_passes_156 : decode cX10_passes 156 = .ok (.dup, 1) := by decide +kernel
theorem dX10_passes_157 : decode cX10_passes 157 = .ok (.getfield 94, 3) := by decide +kernel
theorem dX10_passes_160 : decode cX10_passes 160 = .ok (.iconst 1, 1) := by decide +kernel
theorem dX10_passes_161 : decode cX10_passes 161 = .ok (.iadd, 1) := by decide +kernel
theorem dX10_passes_162 : decode cX10_passes 162 = .ok (.putfield 94, 3) := by decide +kernel
theorem dX10_passes_165 : decode cX10_passes 165 = .ok (.return_, 1) := by decide +kernel
theorem dX10_ticks_0 : decode cX10_ticks 0 = .ok (.iload_n 1, 1) := by decide +kernel
theorem dX10_ticks_1 : decode cX10_ticks 1 = .ok (.iconst 1, 1) := by decide +kernel
theorem dX10_ticks_2 : decode cX10_ticks 2 = .ok (.sipush 200, 3) := by decide +kernel
theorem dX10_ticks_5 : decode cX10_ticks 5 = .ok (.invokestatic 72, 3) := by decide +kernel
theorem dX10_ticks_8 : decode cX10_ticks 8 = .ok (.ifCond .ne 5, 3) := by decide +kernel
theorem dX10_ticks_11 : decode cX10_ticks 11 = .ok (.iconst (-1), 1) := by decide +kernel
theorem dX10_ticks_12 : decode cX10_ticks 12 = .ok (.ireturn, 1) := by decide +kernel
theorem dX10_ticks_13 : decode cX10_ticks 13 = .ok (.aload_n 0, 1) := by decide +kernel
theorem dX10_ticks_14 : decode cX10_ticks 14 = .ok (.getfield 94, 3) := by decide +kernel
theorem dX10_ticks_17 : decode cX10_ticks 17 = .ok (.iload_n 1, 1) := by decide +kernel
theorem dX10_ticks_18 : decode cX10_ticks 18 = .ok (.iadd, 1) := by decide +kernel
theorem dX10_ticks_19 : decode cX10_ticks 19 = .ok (.ldc 97, 2) := by decide +kernel
theorem dX10_ticks_21 : decode cX10_ticks 21 = .ok (.if_icmp .le 6, 3) := by decide +kernel
theorem dX10_ticks_24 : decode cX10_ticks 24 = .ok (.bipush (-3), 2) := by decide +kernel
theorem dX10_ticks_26 : decode cX10_ticks 26 = .ok (.ireturn, 1) := by decide +kernel
theorem dX10_ticks_27 : decode cX10_ticks 27 = .ok (.iconst 0, 1) := by decide +kernel
theorem dX10_ticks_28 : decode cX10_ticks 28 = .ok (.istore_n 2, 1) := by decide +kernel
theorem dX10_ticks_29 : decode cX10_ticks 29 = .ok (.iload_n 2, 1) := by decide +kernel
theorem dX10_ticks_30 : decode cX10_ticks 30 = .ok (.iload_n 1, 1) := by decide +kernel
theorem dX10_ticks_31 : decode cX10_ticks 31 = .ok (.if_icmp .ge 13, 3) := by decide +kernel
theorem dX10_ticks_34 : decode cX10_ticks 34 = .ok (.aload_n 0, 1) := by decide +kernel
theorem dX10_ticks_35 : decode cX10_ticks 35 = .ok (.invokevirtual 123, 3) := by decide +kernel
theorem dX10_ticks_38 : decode cX10_ticks 38 = .ok (.iinc 2 1, 3) := by decide +kernel
theorem dX10_ticks_41 : decode cX10_ticks 41 = .ok (.goto (-12), 3) := by decide +kernel
theorem dX10_ticks_44 : decode cX10_ticks 44 = .ok (.aload_n 0, 1) := by decide +kernel
theorem dX10_ticks_45 : decode cX10_ticks 45 = .ok (.getfield 94, 3) := by decide +kernel
theorem dX10_ticks_48 : decode cX10_ticks 48 = .ok (.ireturn, 1) := by decide +kernel
theorem dX10_base_0 : decode cX10_base 0 = .ok (.iload_n 1, 1) := by decide +kernel
theorem dX10_base_1 : decode cX10_base 1 = .ok (.invokestatic 84, 3) := by decide +kernel
theorem dX10_base_4 : decode cX10_base 4 = .ok (.ifCond .eq 20, 3) := by decide +kernel
theorem dX10_base_7 : decode cX10_base 7 = .ok (.aload_n 0, 1) := by decide +kernel
theorem dX10_base_8 : decode cX10_base 8 = .ok (.iload_n 2, 1) := by decide +kernel
theorem dX10_base_9 : decode cX10_base 9 = .ok (.invokevirtual 80, 3) := by decide +kernel
theorem dX10_base_12 : decode cX10_base 12 = .ok (.ifCond .eq 12, 3) := by decide +kernel
theorem dX10_base_15 : decode cX10_base 15 = .ok (.iload_n 3, 1) := by decide +kernel
theorem dX10_base_16 : decode cX10_base 16 = .ok (.iconst 0, 1) := by decide +kernel
theorem dX10_base_17 : decode cX10_base 17 = .ok (.iconst 3, 1) := by decide +kernel
theorem dX10_base_18 : decode cX10_base 18 = .ok (.invokestatic 72, 3) := by decide +kernel
theorem dX10_base_21 : decode cX10_base 21 = .ok (.ifCond .ne 5, 3) := by decide +kernel
theorem dX10_base_24 : decode cX10_base 24 = .ok (.iconst (-1), 1) := by decide +kernel
theorem dX10_base_25 : decode cX10_base 25 = .ok (.ireturn, 1) := by decide +kernel
theorem dX10_base_26 : decode cX10_base 26 = .ok (.iconst 2, 1) := by decide +kernel
theorem dX10_base_27 : decode cX10_base 27 = .ok (.iload_n 2, 1) := by decide +kernel
theorem dX10_base_28 : decode cX10_base 28 = .ok (.imul, 1) := by decide +kernel
theorem dX10_base_29 : decode cX10_base 29 = .ok (.iload_n 1, 1) := by decide +kernel
theorem dX10_base_30 : decode cX10_base 30 = .ok (.iadd, 1) := by decide +kernel
theorem dX10_base_31 : decode cX10_base 31 = .ok (.istore 4, 2) := by decide +kernel
theorem dX10_base_33 : decode cX10_base 33 = .ok (.iload_n 3, 1) := by decide +kernel
theorem dX10_base_34 : decode cX10_base 34 = .ok (.iconst 2, 1) := by decide +kernel
theorem dX10_base_35 : decode cX10_base 35 = .ok (.if_icmp .ge 40, 3) := by decide +kernel
theorem dX10_base_38 : decode cX10_base 38 = .ok (.aload_n 0, 1) := by decide +kernel
theorem dX10_base_39 : decode cX10_base 39 = .ok (.getfield 38, 3) := by decide +kernel
theorem dX10_base_42 : decode cX10_base 42 = .ok (.iload 4, 2) := by decide +kernel
theorem dX10_base_44 : decode cX10_base 44 = .ok (.iaload, 1) := by decide +kernel
theorem dX10_base_45 : decode cX10_base 45 = .ok (.ifCond .ne 8, 3) := by decide +kernel
theorem dX10_base_48 : decode cX10_base 48 = .ok (.bipush (-4), 2) := by decide +kernel
theorem dX10_base_50 : decode cX10_base 50 = .ok (.goto 24, 3) := by decide +kernel
theorem dX10_base_53 : decode cX10_base 53 = .ok (.iload_n 3, 1) := by decide +kernel
theorem dX10_base_54 : decode cX10_base 54 = .ok (.ifCond .ne 13, 3) := by decide +kernel
theorem dX10_base_57 : decode cX10_base 57 = .ok (.aload_n 0, 1) := by decide +kernel
theorem dX10_base_58 : decode cX10_base 58 = .ok (.getfield 35, 3) := by decide +kernel
theorem dX10_base_61 : decode cX10_base 61 = .ok (.iload 4, 2) := by decide +kernel
theorem dX10_base_63 : decode cX10_base 63 = .ok (.iaload, 1) := by decide +kernel
theorem dX10_base_64 : decode cX10_base 64 = .ok (.goto 10, 3) := by decide +kernel
theorem dX10_base_67 : decode cX10_base 67 = .ok (.aload_n 0, 1) := by decide +kernel
theorem dX10_base_68 : decode cX10_base 68 = .ok (.getfield 38, 3) := by decide +kernel
theorem dX10_base_71 : decode cX10_base 71 = .ok (.iload 4, 2) := by decide +kernel
theorem dX10_base_73 : decode cX10_base 73 = .ok (.iaload, 1) := by decide +kernel
theorem dX10_base_74 : decode cX10_base 74 = .ok (.ireturn, 1) := by decide +kernel
theorem dX10_base_75 : decode cX10_base 75 = .ok (.iload_n 3, 1) := by decide +kernel
theorem dX10_base_76 : decode cX10_base 76 = .ok (.iconst 2, 1) := by decide +kernel
theorem dX10_base_77 : decode cX10_base 77 = .ok (.if_icmp .ne 13, 3) := by decide +kernel
theorem dX10_base_80 : decode cX10_base 80 = .ok (.aload_n 0, 1) := by decide +kernel
theorem dX10_base_81 : decode cX10_base 81 = .ok (.getfield 41, 3) := by decide +kernel
theorem dX10_base_84 : decode cX10_base 84 = .ok (.iload 4, 2) := by decide +kernel
theorem dX10_base_86 : decode cX10_base 86 = .ok (.iaload, 1) := by decide +kernel
theorem dX10_base_87 : decode cX10_base 87 = .ok (.goto 10, 3) := by decide +kernel
theorem dX10_base_90 : decode cX10_base 90 = .ok (.aload_n 0, 1) := by decide +kernel
theorem dX10_base_91 : decode cX10_base 91 = .ok (.getfield 44, 3) := by decide +kernel
theorem dX10_base_94 : decode cX10_base 94 = .ok (.iload 4, 2) := by decide +kernel
theorem dX10_base_96 : decode cX10_base 96 = .ok (.iaload, 1) := by decide +kernel
theorem dX10_base_97 : decode cX10_base 97 = .ok (.istore 5, 2) := by decide +kernel
theorem dX10_base_99 : decode cX10_base 99 = .ok (.iload 5, 2) := by decide +kernel
theorem dX10_base_101 : decode cX10_base 101 = .ok (.ifCond .ne 8, 3) := by decide +kernel
theorem dX10_base_104 : decode cX10_base 104 = .ok (.bipush (-4), 2) := by decide +kernel
theorem dX10_base_106 : decode cX10_base 106 = .ok (.goto 5, 3) := by decide +kernel
theorem dX10_base_109 : decode cX10_base 109 = .ok (.iload 5, 2) := by decide +kernel
theorem dX10_base_111 : decode cX10_base 111 = .ok (.ireturn, 1) := by decide +kernel
theorem dX10_answerOf_0 : decode cX10_answerOf 0 = .ok (.iconst 2, 1) := by decide +kernel
theorem dX10_answerOf_1 : decode cX10_answerOf 1 = .ok (.iload_n 1, 1) := by decide +kernel
theorem dX10_answerOf_2 : decode cX10_answerOf 2 = .ok (.imul, 1) := by decide +kernel
theorem dX10_answerOf_3 : decode cX10_answerOf 3 = .ok (.istore_n 2, 1) := by decide +kernel
theorem dX10_answerOf_4 : decode cX10_answerOf 4 = .ok (.aload_n 0, 1) := by decide +kernel
theorem dX10_answerOf_5 : decode cX10_answerOf 5 = .ok (.getfield 38, 3) := by decide +kernel
theorem dX10_answerOf_8 : decode cX10_answerOf 8 = .ok (.iload_n 2, 1) := by decide +kernel
theorem dX10_answerOf_9 : decode cX10_answerOf 9 = .ok (.iconst 1, 1) := by decide +kernel
theorem dX10_answerOf_10 : decode cX10_answerOf 10 = .ok (.iadd, 1) := by decide +kernel
theorem dX10_answerOf_11 : decode cX10_answerOf 11 = .ok (.iaload, 1) := by decide +kernel
theorem dX10_answerOf_12 : decode cX10_answerOf 12 = .ok (.aload_n 0, 1) := by decide +kernel
theorem dX10_answerOf_13 : decode cX10_answerOf 13 = .ok (.getfield 38, 3) := by decide +kernel
theorem dX10_answerOf_16 : decode cX10_answerOf 16 = .ok (.iload_n 2, 1) := by decide +kernel
theorem dX10_answerOf_17 : decode cX10_answerOf 17 = .ok (.iaload, 1) := by decide +kernel
theorem dX10_answerOf_18 : decode cX10_answerOf 18 = .ok (.if_icmp .le 9, 3) := by decide +kernel
theorem dX10_answerOf_21 : decode cX10_answerOf 21 = .ok (.iload_n 2, 1) := by decide +kernel
theorem dX10_answerOf_22 : decode cX10_answerOf 22 = .ok (.iconst 1, 1) := by decide +kernel
theorem dX10_answerOf_23 : decode cX10_answerOf 23 = .ok (.iadd, 1) := by decide +kernel
theorem dX10_answerOf_24 : decode cX10_answerOf 24 = .ok (.goto 4, 3) := by decide +kernel
theorem dX10_answerOf_27 : decode cX10_answerOf 27 = .ok (.iload_n 2, 1) := by decide +kernel
theorem dX10_answerOf_28 : decode cX10_answerOf 28 = .ok (.istore_n 3, 1) := by decide +kernel
theorem dX10_answerOf_29 : decode cX10_answerOf 29 = .ok (.aload_n 0, 1) := by decide +kernel
theorem dX10_answerOf_30 : decode cX10_answerOf 30 = .ok (.getfield 38, 3) := by decide +kernel
theorem dX10_answerOf_33 : decode cX10_answerOf 33 = .ok (.iload_n 3, 1) := by decide +kernel
theorem dX10_answerOf_34 : decode cX10_answerOf 34 = .ok (.iaload, 1) := by decide +kernel
theorem dX10_answerOf_35 : decode cX10_answerOf 35 = .ok (.ifCond .ne 8, 3) := by decide +kernel
theorem dX10_answerOf_38 : decode cX10_answerOf 38 = .ok (.bipush (-4), 2) := by decide +kernel
theorem dX10_answerOf_40 : decode cX10_answerOf 40 = .ok (.goto 9, 3) := by decide +kernel
theorem dX10_answerOf_43 : decode cX10_answerOf 43 = .ok (.aload_n 0, 1) := by decide +kernel
theorem dX10_answerOf_44 : decode cX10_answerOf 44 = .ok (.getfield 35, 3) := by decide +kernel
theorem dX10_answerOf_47 : decode cX10_answerOf 47 = .ok (.iload_n 3, 1) := by decide +kernel
theorem dX10_answerOf_48 : decode cX10_answerOf 48 = .ok (.iaload, 1) := by decide +kernel
theorem dX10_answerOf_49 : decode cX10_answerOf 49 = .ok (.ireturn, 1) := by decide +kernel
theorem dX10_about_0 : decode cX10_about 0 = .ok (.aload_n 0, 1) := by decide +kernel
theorem dX10_about_1 : decode cX10_about 1 = .ok (.iload_n 1, 1) := by decide +kernel
theorem dX10_about_2 : decode cX10_about 2 = .ok (.invokevirtual 80, 3) := by decide +kernel
theorem dX10_about_5 : decode cX10_about 5 = .ok (.ifCond .eq 12, 3) := by decide +kernel
theorem dX10_about_8 : decode cX10_about 8 = .ok (.iload_n 2, 1) := by decide +kernel
theorem dX10_about_9 : decode cX10_about 9 = .ok (.iconst 0, 1) := by decide +kernel
theorem dX10_about_10 : decode cX10_about 10 = .ok (.iconst 3, 1) := by decide +kernel
theorem dX10_about_11 : decode cX10_about 11 = .ok (.invokestatic 72, 3) := by decide +kernel
theorem dX10_about_14 : decode cX10_about 14 = .ok (.ifCond .ne 5, 3) := by decide +kernel
theorem dX10_about_17 : decode cX10_about 17 = .ok (.iconst (-1), 1) := by decide +kernel
theorem dX10_about_18 : decode cX10_about 18 = .ok (.ireturn, 1) := by decide +kernel
theorem dX10_about_19 : decode cX10_about 19 = .ok (.iload_n 2, 1) := by decide +kernel
theorem dX10_about_20 : decode cX10_about 20 = .ok (.tableswitch 79 0 2 #[28, 35, 55], 28) := by decide +kernel
theorem dX10_about_48 : decode cX10_about 48 = .ok (.aload_n 0, 1) := by decide +kernel
theorem dX10_about_49 : decode cX10_about 49 = .ok (.getfield 22, 3) := by decide +kernel
theorem dX10_about_52 : decode cX10_about 52 = .ok (.iload_n 1, 1) := by decide +kernel
theorem dX10_about_53 : decode cX10_about 53 = .ok (.iaload, 1) := by decide +kernel
theorem dX10_about_54 : decode cX10_about 54 = .ok (.ireturn, 1) := by decide +kernel
theorem dX10_about_55 : decode cX10_about 55 = .ok (.aload_n 0, 1) := by decide +kernel
theorem dX10_about_56 : decode cX10_about 56 = .ok (.getfield 19, 3) := by decide +kernel
theorem dX10_about_59 : decode cX10_about 59 = .ok (.iconst 2, 1) := by decide +kernel
theorem dX10_about_60 : decode cX10_about 60 = .ok (.iload_n 1, 1) := by decide +kernel
theorem dX10_about_61 : decode cX10_about 61 = .ok (.imul, 1) := by decide +kernel
theorem dX10_about_62 : decode cX10_about 62 = .ok (.iaload, 1) := by decide +kernel
theorem dX10_about_63 : decode cX10_about 63 = .ok (.aload_n 0, 1) := by decide +kernel
theorem dX10_about_64 : decode cX10_about 64 = .ok (.getfield 19, 3) := by decide +kernel
theorem dX10_about_67 : decode cX10_about 67 = .ok (.iconst 2, 1) := by decide +kernel
theorem dX10_about_68 : decode cX10_about 68 = .ok (.iload_n 1, 1) := by decide +kernel
theorem dX10_about_69 : decode cX10_about 69 = .ok (.imul, 1) := by decide +kernel
theorem dX10_about_70 : decode cX10_about 70 = .ok (.iconst 1, 1) := by decide +kernel
theorem dX10_about_71 : decode cX10_about 71 = .ok (.iadd, 1) := by decide +kernel
theorem dX10_about_72 : decode cX10_about 72 = .ok (.iaload, 1) := by decide +kernel
theorem dX10_about_73 : decode cX10_about 73 = .ok (.iadd, 1) := by decide +kernel
theorem dX10_about_74 : decode cX10_about 74 = .ok (.ireturn, 1) := by decide +kernel
theorem dX10_about_75 : decode cX10_about 75 = .ok (.aload_n 0, 1) := by decide +kernel
theorem dX10_about_76 : decode cX10_about 76 = .ok (.getfield 22, 3) := by decide +kernel
theorem dX10_about_79 : decode cX10_about 79 = .ok (.iload_n 1, 1) := by decide +kernel
theorem dX10_about_80 : decode cX10_about 80 = .ok (.iaload, 1) := by decide +kernel
theorem dX10_about_81 : decode cX10_about 81 = .ok (.ifCond .le 16, 3) := by decide +kernel
theorem dX10_about_84 : decode cX10_about 84 = .ok (.aload_n 0, 1) := by decide +kernel
theorem dX10_about_85 : decode cX10_about 85 = .ok (.getfield 31, 3) := by decide +kernel
theorem dX10_about_88 : decode cX10_about 88 = .ok (.iload_n 1, 1) := by decide +kernel
theorem dX10_about_89 : decode cX10_about 89 = .ok (.baload, 1) := by decide +kernel
theorem dX10_about_90 : decode cX10_about 90 = .ok (.ifCond .eq 7, 3) := by decide +kernel
theorem dX10_about_93 : decode cX10_about 93 = .ok (.iconst 1, 1) := by decide +kernel
theorem dX10_about_94 : decode cX10_about 94 = .ok (.goto 4, 3) := by decide +kernel
theorem dX10_about_97 : decode cX10_about 97 = .ok (.iconst 0, 1) := by decide +kernel
theorem dX10_about_98 : decode cX10_about 98 = .ok (.ireturn, 1) := by decide +kernel
theorem dX10_about_99 : decode cX10_about 99 = .ok (.aload_n 0, 1) := by decide +kernel
theorem dX10_about_100 : decode cX10_about 100 = .ok (.iload_n 1, 1) := by decide +kernel
theorem dX10_about_101 : decode cX10_about 101 = .ok (.invokevirtual 126, 3) := by decide +kernel
theorem dX10_about_104 : decode cX10_about 104 = .ok (.ireturn, 1) := by decide +kernel
theorem dX10_many_0 : decode cX10_many 0 = .ok (.iconst 0, 1) := by decide +kernel
theorem dX10_many_1 : decode cX10_many 1 = .ok (.istore_n 1, 1) := by decide +kernel
theorem dX10_many_2 : decode cX10_many 2 = .ok (.iconst 0, 1) := by decide +kernel
theorem dX10_many_3 : decode cX10_many 3 = .ok (.istore_n 2, 1) := by decide +kernel
theorem dX10_many_4 : decode cX10_many 4 = .ok (.iload_n 2, 1) := by decide +kernel
theorem dX10_many_5 : decode cX10_many 5 = .ok (.aload_n 0, 1) := by decide +kernel
theorem dX10_many_6 : decode cX10_many 6 = .ok (.getfield 68, 3) := by decide +kernel
theorem dX10_many_9 : decode cX10_many 9 = .ok (.if_icmp .ge 25, 3) := by decide +kernel
theorem dX10_many_12 : decode cX10_many 12 = .ok (.iload_n 1, 1) := by decide +kernel
theorem dX10_many_13 : decode cX10_many 13 = .ok (.aload_n 0, 1) := by decide +kernel
theorem dX10_many_14 : decode cX10_many 14 = .ok (.iload_n 2, 1) := by decide +kernel
theorem dX10_many_15 : decode cX10_many 15 = .ok (.invokevirtual 126, 3) := by decide +kernel
theorem dX10_many_18 : decode cX10_many 18 = .ok (.ifCond .lt 7, 3) := by decide +kernel
theorem dX10_many_21 : decode cX10_many 21 = .ok (.iconst 1, 1) := by decide +kernel
theorem dX10_many_22 : decode cX10_many 22 = .ok (.goto 4, 3) := by decide +kernel
theorem dX10_many_25 : decode cX10_many 25 = .ok (.iconst 0, 1) := by decide +kernel
theorem dX10_many_26 : decode cX10_many 26 = .ok (.iadd, 1) := by decide +kernel
theorem dX10_many_27 : decode cX10_many 27 = .ok (.istore_n 1, 1) := by decide +kernel
theorem dX10_many_28 : decode cX10_many 28 = .ok (.iinc 2 1, 3) := by decide +kernel
theorem dX10_many_31 : decode cX10_many 31 = .ok (.goto (-27), 3) := by decide +kernel
theorem dX10_many_34 : decode cX10_many 34 = .ok (.iload_n 1, 1) := by decide +kernel
theorem dX10_many_35 : decode cX10_many 35 = .ok (.ireturn, 1) := by decide +kernel
theorem dX10_isShown_0 : decode cX10_isShown 0 = .ok (.aload_n 0, 1) := by decide +kernel
theorem dX10_isShown_1 : decode cX10_isShown 1 = .ok (.getfield 76, 3) := by decide +kernel
theorem dX10_isShown_4 : decode cX10_isShown 4 = .ok (.ifCond .eq 25, 3) := by decide +kernel
theorem dX10_isShown_7 : decode cX10_isShown 7 = .ok (.aload_n 0, 1) := by decide +kernel
theorem dX10_isShown_8 : decode cX10_isShown 8 = .ok (.getfield 91, 3) := by decide +kernel
theorem dX10_isShown_11 : decode cX10_isShown 11 = .ok (.ifCond .eq 14, 3) := by decide +kernel
theorem dX10_isShown_14 : decode cX10_isShown 14 = .ok (.aload_n 0, 1) := by decide +kernel
theorem dX10_isShown_15 : decode cX10_isShown 15 = .ok (.getfield 94, 3) := by decide +kernel
theorem dX10_isShown_18 : decode cX10_isShown 18 = .ok (.aload_n 0, 1) := by decide +kernel
theorem dX10_isShown_19 : decode cX10_isShown 19 = .ok (.getfield 104, 3) := by decide +kernel
theorem dX10_isShown_22 : decode cX10_isShown 22 = .ok (.if_icmp .lt 7, 3) := by decide +kernel
theorem dX10_isShown_25 : decode cX10_isShown 25 = .ok (.iconst 1, 1) := by decide +kernel
theorem dX10_isShown_26 : decode cX10_isShown 26 = .ok (.goto 4, 3) := by decide +kernel
theorem dX10_isShown_29 : decode cX10_isShown 29 = .ok (.iconst 0, 1) := by decide +kernel
theorem dX10_isShown_30 : decode cX10_isShown 30 = .ok (.ireturn, 1) := by decide +kernel
theorem dX10_answers_0 : decode cX10_answers 0 = .ok (.aload_n 0, 1) := by decide +kernel
theorem dX10_answers_1 : decode cX10_answers 1 = .ok (.invokevirtual 130, 3) := by decide +kernel
theorem dX10_answers_4 : decode cX10_answers 4 = .ok (.ifCond .eq 10, 3) := by decide +kernel
theorem dX10_answers_7 : decode cX10_answers 7 = .ok (.aload_n 0, 1) := by decide +kernel
theorem dX10_answers_8 : decode cX10_answers 8 = .ok (.invokevirtual 134, 3) := by decide +kernel
theorem dX10_answers_11 : decode cX10_answers 11 = .ok (.goto 5, 3) := by decide +kernel
theorem dX10_answers_14 : decode cX10_answers 14 = .ok (.bipush (-2), 2) := by decide +kernel
theorem dX10_answers_16 : decode cX10_answers 16 = .ok (.ireturn, 1) := by decide +kernel
theorem dX10_isShownOf_0 : decode cX10_isShownOf 0 = .ok (.aload_n 0, 1) := by decide +kernel
theorem dX10_isShownOf_1 : decode cX10_isShownOf 1 = .ok (.invokevirtual 130, 3) := by decide +kernel
theorem dX10_isShownOf_4 : decode cX10_isShownOf 4 = .ok (.ifCond .eq 26, 3) := by decide +kernel
theorem dX10_isShownOf_7 : decode cX10_isShownOf 7 = .ok (.aload_n 0, 1) := by decide +kernel
theorem dX10_isShownOf_8 : decode cX10_isShownOf 8 = .ok (.getfield 98, 3) := by decide +kernel
theorem dX10_isShownOf_11 : decode cX10_isShownOf 11 = .ok (.iload_n 1, 1) := by decide +kernel
theorem dX10_isShownOf_12 : decode cX10_isShownOf 12 = .ok (.if_icmp .ne 18, 3) := by decide +kernel
theorem dX10_isShownOf_15 : decode cX10_isShownOf 15 = .ok (.aload_n 0, 1) := by decide +kernel
theorem dX10_isShownOf_16 : decode cX10_isShownOf 16 = .ok (.invokevirtual 134, 3) := by decide +kernel
end
section
theorem dX10_isShownOf_19 : decode cX10_isShownOf 19 = .ok (.aload_n 0, 1) := by decide +kernel
theorem dX10_isShownOf_20 : decode cX10_isShownOf 20 = .ok (.getfield 88, 3) := by decide +kernel
theorem dX10_isShownOf_23 : decode cX10_isShownOf 23 = .ok (.if_icmp .lt 7, 3) := by decide +kernel
theorem dX10_isShownOf_26 : decode cX10_isShownOf 26 = .ok (.iconst 1, 1) := by decide +kernel
theorem dX10_isShownOf_27 : decode cX10_isShownOf 27 = .ok (.goto 4, 3) := by decide +kernel
theorem dX10_isShownOf_30 : decode cX10_isShownOf 30 = .ok (.iconst 0, 1) := by decide +kernel
theorem dX10_isShownOf_31 : decode cX10_isShownOf 31 = .ok (.ireturn, 1) := by decide +kernel
theorem dX10_share_0 : decode cX10_share 0 = .ok (.iload_n 1, 1) := by decide +kernel
theorem dX10_share_1 : decode cX10_share 1 = .ok (.iconst 0, 1) := by decide +kernel
theorem dX10_share_2 : decode cX10_share 2 = .ok (.bipush 7, 2) := by decide +kernel
theorem dX10_share_4 : decode cX10_share 4 = .ok (.invokestatic 72, 3) := by decide +kernel
theorem dX10_share_7 : decode cX10_share 7 = .ok (.ifCond .ne 5, 3) := by decide +kernel
theorem dX10_share_10 : decode cX10_share 10 = .ok (.iconst (-1), 1) := by decide +kernel
theorem dX10_share_11 : decode cX10_share 11 = .ok (.ireturn, 1) := by decide +kernel
theorem dX10_share_12 : decode cX10_share 12 = .ok (.aload_n 0, 1) := by decide +kernel
theorem dX10_share_13 : decode cX10_share 13 = .ok (.iconst 0, 1) := by decide +kernel
theorem dX10_share_14 : decode cX10_share 14 = .ok (.invokevirtual 138, 3) := by decide +kernel
theorem dX10_share_17 : decode cX10_share 17 = .ok (.ifCond .ne 6, 3) := by decide +kernel
theorem dX10_share_20 : decode cX10_share 20 = .ok (.bipush (-2), 2) := by decide +kernel
theorem dX10_share_22 : decode cX10_share 22 = .ok (.ireturn, 1) := by decide +kernel
theorem dX10_share_23 : decode cX10_share 23 = .ok (.iconst 0, 1) := by decide +kernel
theorem dX10_share_24 : decode cX10_share 24 = .ok (.istore_n 2, 1) := by decide +kernel
theorem dX10_share_25 : decode cX10_share 25 = .ok (.iconst 0, 1) := by decide +kernel
theorem dX10_share_26 : decode cX10_share 26 = .ok (.istore_n 3, 1) := by decide +kernel
theorem dX10_share_27 : decode cX10_share 27 = .ok (.iload_n 3, 1) := by decide +kernel
theorem dX10_share_28 : decode cX10_share 28 = .ok (.aload_n 0, 1) := by decide +kernel
theorem dX10_share_29 : decode cX10_share 29 = .ok (.getfield 68, 3) := by decide +kernel
theorem dX10_share_32 : decode cX10_share 32 = .ok (.if_icmp .ge 26, 3) := by decide +kernel
theorem dX10_share_35 : decode cX10_share 35 = .ok (.iload_n 2, 1) := by decide +kernel
theorem dX10_share_36 : decode cX10_share 36 = .ok (.aload_n 0, 1) := by decide +kernel
theorem dX10_share_37 : decode cX10_share 37 = .ok (.iload_n 3, 1) := by decide +kernel
theorem dX10_share_38 : decode cX10_share 38 = .ok (.invokevirtual 126, 3) := by decide +kernel
theorem dX10_share_41 : decode cX10_share 41 = .ok (.iload_n 1, 1) := by decide +kernel
theorem dX10_share_42 : decode cX10_share 42 = .ok (.if_icmp .ne 7, 3) := by decide +kernel
theorem dX10_share_45 : decode cX10_share 45 = .ok (.iconst 1, 1) := by decide +kernel
theorem dX10_share_46 : decode cX10_share 46 = .ok (.goto 4, 3) := by decide +kernel
theorem dX10_share_49 : decode cX10_share 49 = .ok (.iconst 0, 1) := by decide +kernel
theorem dX10_share_50 : decode cX10_share 50 = .ok (.iadd, 1) := by decide +kernel
theorem dX10_share_51 : decode cX10_share 51 = .ok (.istore_n 2, 1) := by decide +kernel
theorem dX10_share_52 : decode cX10_share 52 = .ok (.iinc 3 1, 3) := by decide +kernel
theorem dX10_share_55 : decode cX10_share 55 = .ok (.goto (-28), 3) := by decide +kernel
theorem dX10_share_58 : decode cX10_share 58 = .ok (.iload_n 2, 1) := by decide +kernel
theorem dX10_share_59 : decode cX10_share 59 = .ok (.ireturn, 1) := by decide +kernel
theorem dX10_middle_0 : decode cX10_middle 0 = .ok (.iconst 0, 1) := by decide +kernel
theorem dX10_middle_1 : decode cX10_middle 1 = .ok (.istore_n 2, 1) := by decide +kernel
theorem dX10_middle_2 : decode cX10_middle 2 = .ok (.iload_n 2, 1) := by decide +kernel
theorem dX10_middle_3 : decode cX10_middle 3 = .ok (.iload_n 1, 1) := by decide +kernel
theorem dX10_middle_4 : decode cX10_middle 4 = .ok (.if_icmp .ge 107, 3) := by decide +kernel
theorem dX10_middle_7 : decode cX10_middle 7 = .ok (.iconst 0, 1) := by decide +kernel
theorem dX10_middle_8 : decode cX10_middle 8 = .ok (.istore_n 3, 1) := by decide +kernel
theorem dX10_middle_9 : decode cX10_middle 9 = .ok (.iconst 0, 1) := by decide +kernel
theorem dX10_middle_10 : decode cX10_middle 10 = .ok (.istore 4, 2) := by decide +kernel
theorem dX10_middle_12 : decode cX10_middle 12 = .ok (.iconst 0, 1) := by decide +kernel
theorem dX10_middle_13 : decode cX10_middle 13 = .ok (.istore 5, 2) := by decide +kernel
theorem dX10_middle_15 : decode cX10_middle 15 = .ok (.iload 5, 2) := by decide +kernel
theorem dX10_middle_17 : decode cX10_middle 17 = .ok (.iload_n 1, 1) := by decide +kernel
theorem dX10_middle_18 : decode cX10_middle 18 = .ok (.if_icmp .ge 59, 3) := by decide +kernel
theorem dX10_middle_21 : decode cX10_middle 21 = .ok (.iload_n 3, 1) := by decide +kernel
theorem dX10_middle_22 : decode cX10_middle 22 = .ok (.aload_n 0, 1) := by decide +kernel
theorem dX10_middle_23 : decode cX10_middle 23 = .ok (.getfield 65, 3) := by decide +kernel
theorem dX10_middle_26 : decode cX10_middle 26 = .ok (.iload 5, 2) := by decide +kernel
theorem dX10_middle_28 : decode cX10_middle 28 = .ok (.iaload, 1) := by decide +kernel
theorem dX10_middle_29 : decode cX10_middle 29 = .ok (.aload_n 0, 1) := by decide +kernel
theorem dX10_middle_30 : decode cX10_middle 30 = .ok (.getfield 65, 3) := by decide +kernel
theorem dX10_middle_33 : decode cX10_middle 33 = .ok (.iload_n 2, 1) := by decide +kernel
theorem dX10_middle_34 : decode cX10_middle 34 = .ok (.iaload, 1) := by decide +kernel
theorem dX10_middle_35 : decode cX10_middle 35 = .ok (.if_icmp .ge 7, 3) := by decide +kernel
theorem dX10_middle_38 : decode cX10_middle 38 = .ok (.iconst 1, 1) := by decide +kernel
theorem dX10_middle_39 : decode cX10_middle 39 = .ok (.goto 4, 3) := by decide +kernel
theorem dX10_middle_42 : decode cX10_middle 42 = .ok (.iconst 0, 1) := by decide +kernel
theorem dX10_middle_43 : decode cX10_middle 43 = .ok (.iadd, 1) := by decide +kernel
theorem dX10_middle_44 : decode cX10_middle 44 = .ok (.istore_n 3, 1) := by decide +kernel
theorem dX10_middle_45 : decode cX10_middle 45 = .ok (.iload 4, 2) := by decide +kernel
theorem dX10_middle_47 : decode cX10_middle 47 = .ok (.aload_n 0, 1) := by decide +kernel
theorem dX10_middle_48 : decode cX10_middle 48 = .ok (.getfield 65, 3) := by decide +kernel
theorem dX10_middle_51 : decode cX10_middle 51 = .ok (.iload 5, 2) := by decide +kernel
theorem dX10_middle_53 : decode cX10_middle 53 = .ok (.iaload, 1) := by decide +kernel
theorem dX10_middle_54 : decode cX10_middle 54 = .ok (.aload_n 0, 1) := by decide +kernel
theorem dX10_middle_55 : decode cX10_middle 55 = .ok (.getfield 65, 3) := by decide +kernel
theorem dX10_middle_58 : decode cX10_middle 58 = .ok (.iload_n 2, 1) := by decide +kernel
theorem dX10_middle_59 : decode cX10_middle 59 = .ok (.iaload, 1) := by decide +kernel
theorem dX10_middle_60 : decode cX10_middle 60 = .ok (.if_icmp .ne 7, 3) := by decide +kernel
theorem dX10_middle_63 : decode cX10_middle 63 = .ok (.iconst 1, 1) := by decide +kernel
theorem dX10_middle_64 : decode cX10_middle 64 = .ok (.goto 4, 3) := by decide +kernel
theorem dX10_middle_67 : decode cX10_middle 67 = .ok (.iconst 0, 1) := by decide +kernel
theorem dX10_middle_68 : decode cX10_middle 68 = .ok (.iadd, 1) := by decide +kernel
theorem dX10_middle_69 : decode cX10_middle 69 = .ok (.istore 4, 2) := by decide +kernel
theorem dX10_middle_71 : decode cX10_middle 71 = .ok (.iinc 5 1, 3) := by decide +kernel
theorem dX10_middle_74 : decode cX10_middle 74 = .ok (.goto (-59), 3) := by decide +kernel
theorem dX10_middle_77 : decode cX10_middle 77 = .ok (.iload_n 3, 1) := by decide +kernel
theorem dX10_middle_78 : decode cX10_middle 78 = .ok (.iload_n 1, 1) := by decide +kernel
theorem dX10_middle_79 : decode cX10_middle 79 = .ok (.iconst 1, 1) := by decide +kernel
theorem dX10_middle_80 : decode cX10_middle 80 = .ok (.isub, 1) := by decide +kernel
theorem dX10_middle_81 : decode cX10_middle 81 = .ok (.iconst 2, 1) := by decide +kernel
theorem dX10_middle_82 : decode cX10_middle 82 = .ok (.idiv, 1) := by decide +kernel
theorem dX10_middle_83 : decode cX10_middle 83 = .ok (.if_icmp .gt 22, 3) := by decide +kernel
theorem dX10_middle_86 : decode cX10_middle 86 = .ok (.iload_n 3, 1) := by decide +kernel
theorem dX10_middle_87 : decode cX10_middle 87 = .ok (.iload 4, 2) := by decide +kernel
theorem dX10_middle_89 : decode cX10_middle 89 = .ok (.iadd, 1) := by decide +kernel
theorem dX10_middle_90 : decode cX10_middle 90 = .ok (.iload_n 1, 1) := by decide +kernel
theorem dX10_middle_91 : decode cX10_middle 91 = .ok (.iconst 1, 1) := by decide +kernel
theorem dX10_middle_92 : decode cX10_middle 92 = .ok (.isub, 1) := by decide +kernel
theorem dX10_middle_93 : decode cX10_middle 93 = .ok (.iconst 2, 1) := by decide +kernel
theorem dX10_middle_94 : decode cX10_middle 94 = .ok (.idiv, 1) := by decide +kernel
theorem dX10_middle_95 : decode cX10_middle 95 = .ok (.if_icmp .le 10, 3) := by decide +kernel
theorem dX10_middle_98 : decode cX10_middle 98 = .ok (.aload_n 0, 1) := by decide +kernel
theorem dX10_middle_99 : decode cX10_middle 99 = .ok (.getfield 65, 3) := by decide +kernel
theorem dX10_middle_102 : decode cX10_middle 102 = .ok (.iload_n 2, 1) := by decide +kernel
theorem dX10_middle_103 : decode cX10_middle 103 = .ok (.iaload, 1) := by decide +kernel
theorem dX10_middle_104 : decode cX10_middle 104 = .ok (.ireturn, 1) := by decide +kernel
theorem dX10_middle_105 : decode cX10_middle 105 = .ok (.iinc 2 1, 3) := by decide +kernel
theorem dX10_middle_108 : decode cX10_middle 108 = .ok (.goto (-106), 3) := by decide +kernel
theorem dX10_middle_111 : decode cX10_middle 111 = .ok (.iconst 0, 1) := by decide +kernel
theorem dX10_middle_112 : decode cX10_middle 112 = .ok (.ireturn, 1) := by decide +kernel
theorem dX10_size_0 : decode cX10_size 0 = .ok (.iload_n 0, 1) := by decide +kernel
theorem dX10_size_1 : decode cX10_size 1 = .ok (.ifCond .ge 8, 3) := by decide +kernel
theorem dX10_size_4 : decode cX10_size 4 = .ok (.iload_n 0, 1) := by decide +kernel
theorem dX10_size_5 : decode cX10_size 5 = .ok (.ineg, 1) := by decide +kernel
theorem dX10_size_6 : decode cX10_size 6 = .ok (.goto 4, 3) := by decide +kernel
theorem dX10_size_9 : decode cX10_size 9 = .ok (.iload_n 0, 1) := by decide +kernel
theorem dX10_size_10 : decode cX10_size 10 = .ok (.ireturn, 1) := by decide +kernel
theorem dX10_number_0 : decode cX10_number 0 = .ok (.iload_n 1, 1) := by decide +kernel
theorem dX10_number_1 : decode cX10_number 1 = .ok (.iconst 0, 1) := by decide +kernel
theorem dX10_number_2 : decode cX10_number 2 = .ok (.iconst 2, 1) := by decide +kernel
theorem dX10_number_3 : decode cX10_number 3 = .ok (.invokestatic 72, 3) := by decide +kernel
theorem dX10_number_6 : decode cX10_number 6 = .ok (.ifCond .ne 5, 3) := by decide +kernel
theorem dX10_number_9 : decode cX10_number 9 = .ok (.iconst (-1), 1) := by decide +kernel
theorem dX10_number_10 : decode cX10_number 10 = .ok (.ireturn, 1) := by decide +kernel
theorem dX10_number_11 : decode cX10_number 11 = .ok (.aload_n 0, 1) := by decide +kernel
theorem dX10_number_12 : decode cX10_number 12 = .ok (.iconst 1, 1) := by decide +kernel
theorem dX10_number_13 : decode cX10_number 13 = .ok (.invokevirtual 138, 3) := by decide +kernel
theorem dX10_number_16 : decode cX10_number 16 = .ok (.ifCond .eq 10, 3) := by decide +kernel
theorem dX10_number_19 : decode cX10_number 19 = .ok (.aload_n 0, 1) := by decide +kernel
theorem dX10_number_20 : decode cX10_number 20 = .ok (.invokevirtual 134, 3) := by decide +kernel
theorem dX10_number_23 : decode cX10_number 23 = .ok (.ifCond .ne 6, 3) := by decide +kernel
theorem dX10_number_26 : decode cX10_number 26 = .ok (.bipush (-2), 2) := by decide +kernel
theorem dX10_number_28 : decode cX10_number 28 = .ok (.ireturn, 1) := by decide +kernel
theorem dX10_number_29 : decode cX10_number 29 = .ok (.iconst 0, 1) := by decide +kernel
theorem dX10_number_30 : decode cX10_number 30 = .ok (.istore_n 2, 1) := by decide +kernel
theorem dX10_number_31 : decode cX10_number 31 = .ok (.iconst 0, 1) := by decide +kernel
theorem dX10_number_32 : decode cX10_number 32 = .ok (.istore_n 3, 1) := by decide +kernel
theorem dX10_number_33 : decode cX10_number 33 = .ok (.iload_n 3, 1) := by decide +kernel
theorem dX10_number_34 : decode cX10_number 34 = .ok (.aload_n 0, 1) := by decide +kernel
theorem dX10_number_35 : decode cX10_number 35 = .ok (.getfield 68, 3) := by decide +kernel
theorem dX10_number_38 : decode cX10_number 38 = .ok (.if_icmp .ge 31, 3) := by decide +kernel
theorem dX10_number_41 : decode cX10_number 41 = .ok (.aload_n 0, 1) := by decide +kernel
theorem dX10_number_42 : decode cX10_number 42 = .ok (.iload_n 3, 1) := by decide +kernel
theorem dX10_number_43 : decode cX10_number 43 = .ok (.invokevirtual 126, 3) := by decide +kernel
theorem dX10_number_46 : decode cX10_number 46 = .ok (.ifCond .lt 17, 3) := by decide +kernel
theorem dX10_number_49 : decode cX10_number 49 = .ok (.aload_n 0, 1) := by decide +kernel
theorem dX10_number_50 : decode cX10_number 50 = .ok (.getfield 65, 3) := by decide +kernel
theorem dX10_number_53 : decode cX10_number 53 = .ok (.iload_n 2, 1) := by decide +kernel
theorem dX10_number_54 : decode cX10_number 54 = .ok (.aload_n 0, 1) := by decide +kernel
theorem dX10_number_55 : decode cX10_number 55 = .ok (.iload_n 3, 1) := by decide +kernel
theorem dX10_number_56 : decode cX10_number 56 = .ok (.invokevirtual 126, 3) := by decide +kernel
theorem dX10_number_59 : decode cX10_number 59 = .ok (.iastore, 1) := by decide +kernel
theorem dX10_number_60 : decode cX10_number 60 = .ok (.iinc 2 1, 3) := by decide +kernel
theorem dX10_number_63 : decode cX10_number 63 = .ok (.iinc 3 1, 3) := by decide +kernel
theorem dX10_number_66 : decode cX10_number 66 = .ok (.goto (-33), 3) := by decide +kernel
theorem dX10_number_69 : decode cX10_number 69 = .ok (.aload_n 0, 1) := by decide +kernel
theorem dX10_number_70 : decode cX10_number 70 = .ok (.iload_n 2, 1) := by decide +kernel
theorem dX10_number_71 : decode cX10_number 71 = .ok (.invokevirtual 141, 3) := by decide +kernel
theorem dX10_number_74 : decode cX10_number 74 = .ok (.istore_n 3, 1) := by decide +kernel
theorem dX10_number_75 : decode cX10_number 75 = .ok (.iconst 0, 1) := by decide +kernel
theorem dX10_number_76 : decode cX10_number 76 = .ok (.istore 4, 2) := by decide +kernel
theorem dX10_number_78 : decode cX10_number 78 = .ok (.iload 4, 2) := by decide +kernel
theorem dX10_number_80 : decode cX10_number 80 = .ok (.iload_n 2, 1) := by decide +kernel
theorem dX10_number_81 : decode cX10_number 81 = .ok (.if_icmp .ge 28, 3) := by decide +kernel
theorem dX10_number_84 : decode cX10_number 84 = .ok (.aload_n 0, 1) := by decide +kernel
theorem dX10_number_85 : decode cX10_number 85 = .ok (.getfield 65, 3) := by decide +kernel
theorem dX10_number_88 : decode cX10_number 88 = .ok (.iload 4, 2) := by decide +kernel
theorem dX10_number_90 : decode cX10_number 90 = .ok (.aload_n 0, 1) := by decide +kernel
theorem dX10_number_91 : decode cX10_number 91 = .ok (.getfield 65, 3) := by decide +kernel
theorem dX10_number_94 : decode cX10_number 94 = .ok (.iload 4, 2) := by decide +kernel
theorem dX10_number_96 : decode cX10_number 96 = .ok (.iaload, 1) := by decide +kernel
theorem dX10_number_97 : decode cX10_number 97 = .ok (.iload_n 3, 1) := by decide +kernel
theorem dX10_number_98 : decode cX10_number 98 = .ok (.isub, 1) := by decide +kernel
theorem dX10_number_99 : decode cX10_number 99 = .ok (.invokestatic 144, 3) := by decide +kernel
theorem dX10_number_102 : decode cX10_number 102 = .ok (.iastore, 1) := by decide +kernel
theorem dX10_number_103 : decode cX10_number 103 = .ok (.iinc 4 1, 3) := by decide +kernel
theorem dX10_number_106 : decode cX10_number 106 = .ok (.goto (-28), 3) := by decide +kernel
theorem dX10_number_109 : decode cX10_number 109 = .ok (.aload_n 0, 1) := by decide +kernel
theorem dX10_number_110 : decode cX10_number 110 = .ok (.iload_n 2, 1) := by decide +kernel
theorem dX10_number_111 : decode cX10_number 111 = .ok (.invokevirtual 141, 3) := by decide +kernel
theorem dX10_number_114 : decode cX10_number 114 = .ok (.istore 4, 2) := by decide +kernel
theorem dX10_number_116 : decode cX10_number 116 = .ok (.iconst 0, 1) := by decide +kernel
theorem dX10_number_117 : decode cX10_number 117 = .ok (.istore 5, 2) := by decide +kernel
theorem dX10_number_119 : decode cX10_number 119 = .ok (.iconst 0, 1) := by decide +kernel
theorem dX10_number_120 : decode cX10_number 120 = .ok (.istore 6, 2) := by decide +kernel
theorem dX10_number_122 : decode cX10_number 122 = .ok (.iconst 0, 1) := by decide +kernel
theorem dX10_number_123 : decode cX10_number 123 = .ok (.istore 7, 2) := by decide +kernel
theorem dX10_number_125 : decode cX10_number 125 = .ok (.iload 7, 2) := by decide +kernel
theorem dX10_number_127 : decode cX10_number 127 = .ok (.aload_n 0, 1) := by decide +kernel
theorem dX10_number_128 : decode cX10_number 128 = .ok (.getfield 68, 3) := by decide +kernel
theorem dX10_number_131 : decode cX10_number 131 = .ok (.if_icmp .ge 76, 3) := by decide +kernel
theorem dX10_number_134 : decode cX10_number 134 = .ok (.aload_n 0, 1) := by decide +kernel
theorem dX10_number_135 : decode cX10_number 135 = .ok (.iload 7, 2) := by decide +kernel
theorem dX10_number_137 : decode cX10_number 137 = .ok (.invokevirtual 126, 3) := by decide +kernel
theorem dX10_number_140 : decode cX10_number 140 = .ok (.ifCond .lt 25, 3) := by decide +kernel
theorem dX10_number_143 : decode cX10_number 143 = .ok (.aload_n 0, 1) := by decide +kernel
theorem dX10_number_144 : decode cX10_number 144 = .ok (.iload 7, 2) := by decide +kernel
theorem dX10_number_146 : decode cX10_number 146 = .ok (.invokevirtual 126, 3) := by decide +kernel
theorem dX10_number_149 : decode cX10_number 149 = .ok (.iload_n 3, 1) := by decide +kernel
theorem dX10_number_150 : decode cX10_number 150 = .ok (.isub, 1) := by decide +kernel
theorem dX10_number_151 : decode cX10_number 151 = .ok (.invokestatic 144, 3) := by decide +kernel
theorem dX10_number_154 : decode cX10_number 154 = .ok (.iconst 3, 1) := by decide +kernel
theorem dX10_number_155 : decode cX10_number 155 = .ok (.iload 4, 2) := by decide +kernel
theorem dX10_number_157 : decode cX10_number 157 = .ok (.imul, 1) := by decide +kernel
theorem dX10_number_158 : decode cX10_number 158 = .ok (.if_icmp .le 7, 3) := by decide +kernel
theorem dX10_number_161 : decode cX10_number 161 = .ok (.iconst 1, 1) := by decide +kernel
theorem dX10_number_162 : decode cX10_number 162 = .ok (.goto 4, 3) := by decide +kernel
theorem dX10_number_165 : decode cX10_number 165 = .ok (.iconst 0, 1) := by decide +kernel
theorem dX10_number_166 : decode cX10_number 166 = .ok (.istore 8, 2) := by decide +kernel
theorem dX10_number_168 : decode cX10_number 168 = .ok (.iload 5, 2) := by decide +kernel
theorem dX10_number_170 : decode cX10_number 170 = .ok (.iload 8, 2) := by decide +kernel
theorem dX10_number_172 : decode cX10_number 172 = .ok (.ifCond .eq 10, 3) := by decide +kernel
theorem dX10_number_175 : decode cX10_number 175 = .ok (.iconst 1, 1) := by decide +kernel
theorem dX10_number_176 : decode cX10_number 176 = .ok (.iload 7, 2) := by decide +kernel
theorem dX10_number_178 : decode cX10_number 178 = .ok (.ishl, 1) := by decide +kernel
theorem dX10_number_179 : decode cX10_number 179 = .ok (.goto 4, 3) := by decide +kernel
theorem dX10_number_182 : decode cX10_number 182 = .ok (.iconst 0, 1) := by decide +kernel
theorem dX10_number_183 : decode cX10_number 183 = .ok (.ior, 1) := by decide +kernel
theorem dX10_number_184 : decode cX10_number 184 = .ok (.istore 5, 2) := by decide +kernel
theorem dX10_number_186 : decode cX10_number 186 = .ok (.iload 6, 2) := by decide +kernel
theorem dX10_number_188 : decode cX10_number 188 = .ok (.iload 8, 2) := by decide +kernel
theorem dX10_number_190 : decode cX10_number 190 = .ok (.ifCond .eq 7, 3) := by decide +kernel
theorem dX10_number_193 : decode cX10_number 193 = .ok (.iconst 1, 1) := by decide +kernel
theorem dX10_number_194 : decode cX10_number 194 = .ok (.goto 4, 3) := by decide +kernel
theorem dX10_number_197 : decode cX10_number 197 = .ok (.iconst 0, 1) := by decide +kernel
theorem dX10_number_198 : decode cX10_number 198 = .ok (.iadd, 1) := by decide +kernel
theorem dX10_number_199 : decode cX10_number 199 = .ok (.istore 6, 2) := by decide +kernel
theorem dX10_number_201 : decode cX10_number 201 = .ok (.iinc 7 1, 3) := by decide +kernel
theorem dX10_number_204 : decode cX10_number 204 = .ok (.goto (-79), 3) := by decide +kernel
theorem dX10_number_207 : decode cX10_number 207 = .ok (.iload_n 1, 1) := by decide +kernel
theorem dX10_number_208 : decode cX10_number 208 = .ok (.ifCond .ne 7, 3) := by decide +kernel
theorem dX10_number_211 : decode cX10_number 211 = .ok (.iload_n 3, 1) := by decide +kernel
theorem dX10_number_212 : decode cX10_number 212 = .ok (.goto 15, 3) := by decide +kernel
theorem dX10_number_215 : decode cX10_number 215 = .ok (.iload_n 1, 1) := by decide +kernel
theorem dX10_number_216 : decode cX10_number 216 = .ok (.iconst 1, 1) := by decide +kernel
theorem dX10_number_217 : decode cX10_number 217 = .ok (.if_icmp .ne 8, 3) := by decide +kernel
theorem dX10_number_220 : decode cX10_number 220 = .ok (.iload 6, 2) := by decide +kernel
theorem dX10_number_222 : decode cX10_number 222 = .ok (.goto 5, 3) := by decide +kernel
theorem dX10_number_225 : decode cX10_number 225 = .ok (.iload 5, 2) := by decide +kernel
theorem dX10_number_227 : decode cX10_number 227 = .ok (.ireturn, 1) := by decide +kernel
theorem dX10_place_0 : decode cX10_place 0 = .ok (.iconst 0, 1) := by decide +kernel
theorem dX10_place_1 : decode cX10_place 1 = .ok (.istore_n 3, 1) := by decide +kernel
theorem dX10_place_2 : decode cX10_place 2 = .ok (.iload_n 1, 1) := by decide +kernel
theorem dX10_place_3 : decode cX10_place 3 = .ok (.iconst 3, 1) := by decide +kernel
theorem dX10_place_4 : decode cX10_place 4 = .ok (.iload_n 3, 1) := by decide +kernel
theorem dX10_place_5 : decode cX10_place 5 = .ok (.imul, 1) := by decide +kernel
theorem dX10_place_6 : decode cX10_place 6 = .ok (.ishr, 1) := by decide +kernel
theorem dX10_place_7 : decode cX10_place 7 = .ok (.bipush 7, 2) := by decide +kernel
theorem dX10_place_9 : decode cX10_place 9 = .ok (.iand, 1) := by decide +kernel
theorem dX10_place_10 : decode cX10_place 10 = .ok (.iload_n 2, 1) := by decide +kernel
theorem dX10_place_11 : decode cX10_place 11 = .ok (.if_icmp .eq 9, 3) := by decide +kernel
theorem dX10_place_14 : decode cX10_place 14 = .ok (.iinc 3 1, 3) := by decide +kernel
theorem dX10_place_17 : decode cX10_place 17 = .ok (.goto (-15), 3) := by decide +kernel
theorem dX10_place_20 : decode cX10_place 20 = .ok (.iload_n 3, 1) := by decide +kernel
theorem dX10_place_21 : decode cX10_place 21 = .ok (.ireturn, 1) := by decide +kernel
theorem dX10_turned_0 : decode cX10_turned 0 = .ok (.iconst 0, 1) := by decide +kernel
theorem dX10_turned_1 : decode cX10_turned 1 = .ok (.istore_n 2, 1) := by decide +kernel
theorem dX10_turned_2 : decode cX10_turned 2 = .ok (.iconst 0, 1) := by decide +kernel
theorem dX10_turned_3 : decode cX10_turned 3 = .ok (.istore_n 3, 1) := by decide +kernel
theorem dX10_turned_4 : decode cX10_turned 4 = .ok (.iload_n 3, 1) := by decide +kernel
theorem dX10_turned_5 : decode cX10_turned 5 = .ok (.aload_n 0, 1) := by decide +kernel
theorem dX10_turned_6 : decode cX10_turned 6 = .ok (.getfield 68, 3) := by decide +kernel
theorem dX10_turned_9 : decode cX10_turned 9 = .ok (.if_icmp .ge 117, 3) := by decide +kernel
theorem dX10_turned_12 : decode cX10_turned 12 = .ok (.aload_n 0, 1) := by decide +kernel
theorem dX10_turned_13 : decode cX10_turned 13 = .ok (.iload_n 3, 1) := by decide +kernel
theorem dX10_turned_14 : decode cX10_turned 14 = .ok (.invokevirtual 126, 3) := by decide +kernel
theorem dX10_turned_17 : decode cX10_turned 17 = .ok (.istore 4, 2) := by decide +kernel
theorem dX10_turned_19 : decode cX10_turned 19 = .ok (.iconst 0, 1) := by decide +kernel
theorem dX10_turned_20 : decode cX10_turned 20 = .ok (.istore 5, 2) := by decide +kernel
theorem dX10_turned_22 : decode cX10_turned 22 = .ok (.iload 5, 2) := by decide +kernel
theorem dX10_turned_24 : decode cX10_turned 24 = .ok (.aload_n 0, 1) := by decide +kernel
theorem dX10_turned_25 : decode cX10_turned 25 = .ok (.getfield 101, 3) := by decide +kernel
theorem dX10_turned_28 : decode cX10_turned 28 = .ok (.if_icmp .ge 92, 3) := by decide +kernel
theorem dX10_turned_31 : decode cX10_turned 31 = .ok (.iload 4, 2) := by decide +kernel
theorem dX10_turned_33 : decode cX10_turned 33 = .ok (.ifCond .lt 87, 3) := by decide +kernel
theorem dX10_turned_36 : decode cX10_turned 36 = .ok (.iload 5, 2) := by decide +kernel
theorem dX10_turned_38 : decode cX10_turned 38 = .ok (.iconst 1, 1) := by decide +kernel
theorem dX10_turned_39 : decode cX10_turned 39 = .ok (.iadd, 1) := by decide +kernel
theorem dX10_turned_40 : decode cX10_turned 40 = .ok (.istore 6, 2) := by decide +kernel
theorem dX10_turned_42 : decode cX10_turned 42 = .ok (.iload 6, 2) := by decide +kernel
theorem dX10_turned_44 : decode cX10_turned 44 = .ok (.aload_n 0, 1) := by decide +kernel
theorem dX10_turned_45 : decode cX10_turned 45 = .ok (.getfield 101, 3) := by decide +kernel
theorem dX10_turned_48 : decode cX10_turned 48 = .ok (.if_icmp .ge 66, 3) := by decide +kernel
theorem dX10_turned_51 : decode cX10_turned 51 = .ok (.iload_n 2, 1) := by decide +kernel
theorem dX10_turned_52 : decode cX10_turned 52 = .ok (.aload_n 0, 1) := by decide +kernel
theorem dX10_turned_53 : decode cX10_turned 53 = .ok (.iload_n 1, 1) := by decide +kernel
theorem dX10_turned_54 : decode cX10_turned 54 = .ok (.iload 5, 2) := by decide +kernel
theorem dX10_turned_56 : decode cX10_turned 56 = .ok (.invokevirtual 147, 3) := by decide +kernel
theorem dX10_turned_59 : decode cX10_turned 59 = .ok (.aload_n 0, 1) := by decide +kernel
theorem dX10_turned_60 : decode cX10_turned 60 = .ok (.iload_n 1, 1) := by decide +kernel
theorem dX10_turned_61 : decode cX10_turned 61 = .ok (.iload 6, 2) := by decide +kernel
theorem dX10_turned_63 : decode cX10_turned 63 = .ok (.invokevirtual 147, 3) := by decide +kernel
theorem dX10_turned_66 : decode cX10_turned 66 = .ok (.if_icmp .ge 7, 3) := by decide +kernel
theorem dX10_turned_69 : decode cX10_turned 69 = .ok (.iconst 1, 1) := by decide +kernel
theorem dX10_turned_70 : decode cX10_turned 70 = .ok (.goto 4, 3) := by decide +kernel
theorem dX10_turned_73 : decode cX10_turned 73 = .ok (.iconst 0, 1) := by decide +kernel
theorem dX10_turned_74 : decode cX10_turned 74 = .ok (.aload_n 0, 1) := by decide +kernel
theorem dX10_turned_75 : decode cX10_turned 75 = .ok (.iload 4, 2) := by decide +kernel
theorem dX10_turned_77 : decode cX10_turned 77 = .ok (.iload 5, 2) := by decide +kernel
theorem dX10_turned_79 : decode cX10_turned 79 = .ok (.invokevirtual 147, 3) := by decide +kernel
theorem dX10_turned_82 : decode cX10_turned 82 = .ok (.aload_n 0, 1) := by decide +kernel
theorem dX10_turned_83 : decode cX10_turned 83 = .ok (.iload 4, 2) := by decide +kernel
theorem dX10_turned_85 : decode cX10_turned 85 = .ok (.iload 6, 2) := by decide +kernel
theorem dX10_turned_87 : decode cX10_turned 87 = .ok (.invokevirtual 147, 3) := by decide +kernel
theorem dX10_turned_90 : decode cX10_turned 90 = .ok (.if_icmp .ge 7, 3) := by decide +kernel
theorem dX10_turned_93 : decode cX10_turned 93 = .ok (.iconst 1, 1) := by decide +kernel
theorem dX10_turned_94 : decode cX10_turned 94 = .ok (.goto 4, 3) := by decide +kernel
theorem dX10_turned_97 : decode cX10_turned 97 = .ok (.iconst 0, 1) := by decide +kernel
theorem dX10_turned_98 : decode cX10_turned 98 = .ok (.if_icmp .eq 7, 3) := by decide +kernel
theorem dX10_turned_101 : decode cX10_turned 101 = .ok (.iconst 1, 1) := by decide +kernel
theorem dX10_turned_102 : decode cX10_turned 102 = .ok (.goto 4, 3) := by decide +kernel
theorem dX10_turned_105 : decode cX10_turned 105 = .ok (.iconst 0, 1) := by decide +kernel
theorem dX10_turned_106 : decode cX10_turned 106 = .ok (.iadd, 1) := by decide +kernel
theorem dX10_turned_107 : decode cX10_turned 107 = .ok (.istore_n 2, 1) := by decide +kernel
theorem dX10_turned_108 : decode cX10_turned 108 = .ok (.iinc 6 1, 3) := by decide +kernel
theorem dX10_turned_111 : decode cX10_turned 111 = .ok (.goto (-69), 3) := by decide +kernel
theorem dX10_turned_114 : decode cX10_turned 114 = .ok (.iinc 5 1, 3) := by decide +kernel
theorem dX10_turned_117 : decode cX10_turned 117 = .ok (.goto (-95), 3) := by decide +kernel
theorem dX10_turned_120 : decode cX10_turned 120 = .ok (.iinc 3 1, 3) := by decide +kernel
theorem dX10_turned_123 : decode cX10_turned 123 = .ok (.goto (-119), 3) := by decide +kernel
theorem dX10_turned_126 : decode cX10_turned 126 = .ok (.iload_n 2, 1) := by decide +kernel
theorem dX10_turned_127 : decode cX10_turned 127 = .ok (.ireturn, 1) := by decide +kernel
theorem dX10_isLower_0 : decode cX10_isLower 0 = .ok (.iconst 0, 1) := by decide +kernel
theorem dX10_isLower_1 : decode cX10_isLower 1 = .ok (.istore_n 2, 1) := by decide +kernel
theorem dX10_isLower_2 : decode cX10_isLower 2 = .ok (.iload_n 0, 1) := by decide +kernel
theorem dX10_isLower_3 : decode cX10_isLower 3 = .ok (.iconst 3, 1) := by decide +kernel
theorem dX10_isLower_4 : decode cX10_isLower 4 = .ok (.iload_n 2, 1) := by decide +kernel
theorem dX10_isLower_5 : decode cX10_isLower 5 = .ok (.imul, 1) := by decide +kernel
theorem dX10_isLower_6 : decode cX10_isLower 6 = .ok (.ishr, 1) := by decide +kernel
theorem dX10_isLower_7 : decode cX10_isLower 7 = .ok (.bipush 7, 2) := by decide +kernel
theorem dX10_isLower_9 : decode cX10_isLower 9 = .ok (.iand, 1) := by decide +kernel
theorem dX10_isLower_10 : decode cX10_isLower 10 = .ok (.iload_n 1, 1) := by decide +kernel
theorem dX10_isLower_11 : decode cX10_isLower 11 = .ok (.iconst 3, 1) := by decide +kernel
theorem dX10_isLower_12 : decode cX10_isLower 12 = .ok (.iload_n 2, 1) := by decide +kernel
theorem dX10_isLower_13 : decode cX10_isLower 13 = .ok (.imul, 1) := by decide +kernel
theorem dX10_isLower_14 : decode cX10_isLower 14 = .ok (.ishr, 1) := by decide +kernel
theorem dX10_isLower_15 : decode cX10_isLower 15 = .ok (.bipush 7, 2) := by decide +kernel
theorem dX10_isLower_17 : decode cX10_isLower 17 = .ok (.iand, 1) := by decide +kernel
theorem dX10_isLower_18 : decode cX10_isLower 18 = .ok (.if_icmp .ne 9, 3) := by decide +kernel
theorem dX10_isLower_21 : decode cX10_isLower 21 = .ok (.iinc 2 1, 3) := by decide +kernel
theorem dX10_isLower_24 : decode cX10_isLower 24 = .ok (.goto (-22), 3) := by decide +kernel
theorem dX10_isLower_27 : decode cX10_isLower 27 = .ok (.iload_n 0, 1) := by decide +kernel
theorem dX10_isLower_28 : decode cX10_isLower 28 = .ok (.iconst 3, 1) := by decide +kernel
theorem dX10_isLower_29 : decode cX10_isLower 29 = .ok (.iload_n 2, 1) := by decide +kernel
theorem dX10_isLower_30 : decode cX10_isLower 30 = .ok (.imul, 1) := by decide +kernel
theorem dX10_isLower_31 : decode cX10_isLower 31 = .ok (.ishr, 1) := by decide +kernel
theorem dX10_isLower_32 : decode cX10_isLower 32 = .ok (.bipush 7, 2) := by decide +kernel
theorem dX10_isLower_34 : decode cX10_isLower 34 = .ok (.iand, 1) := by decide +kernel
theorem dX10_isLower_35 : decode cX10_isLower 35 = .ok (.iload_n 1, 1) := by decide +kernel
theorem dX10_isLower_36 : decode cX10_isLower 36 = .ok (.iconst 3, 1) := by decide +kernel
theorem dX10_isLower_37 : decode cX10_isLower 37 = .ok (.iload_n 2, 1) := by decide +kernel
theorem dX10_isLower_38 : decode cX10_isLower 38 = .ok (.imul, 1) := by decide +kernel
theorem dX10_isLower_39 : decode cX10_isLower 39 = .ok (.ishr, 1) := by decide +kernel
theorem dX10_isLower_40 : decode cX10_isLower 40 = .ok (.bipush 7, 2) := by decide +kernel
theorem dX10_isLower_42 : decode cX10_isLower 42 = .ok (.iand, 1) := by decide +kernel
theorem dX10_isLower_43 : decode cX10_isLower 43 = .ok (.if_icmp .ge 7, 3) := by decide +kernel
theorem dX10_isLower_46 : decode cX10_isLower 46 = .ok (.iconst 1, 1) := by decide +kernel
theorem dX10_isLower_47 : decode cX10_isLower 47 = .ok (.goto 4, 3) := by decide +kernel
theorem dX10_isLower_50 : decode cX10_isLower 50 = .ok (.iconst 0, 1) := by decide +kernel
theorem dX10_isLower_51 : decode cX10_isLower 51 = .ok (.ireturn, 1) := by decide +kernel
theorem dX10_order_0 : decode cX10_order 0 = .ok (.iload_n 1, 1) := by decide +kernel
theorem dX10_order_1 : decode cX10_order 1 = .ok (.iconst 0, 1) := by decide +kernel
theorem dX10_order_2 : decode cX10_order 2 = .ok (.iconst 1, 1) := by decide +kernel
theorem dX10_order_3 : decode cX10_order 3 = .ok (.invokestatic 72, 3) := by decide +kernel
theorem dX10_order_6 : decode cX10_order 6 = .ok (.ifCond .ne 5, 3) := by decide +kernel
theorem dX10_order_9 : decode cX10_order 9 = .ok (.iconst (-1), 1) := by decide +kernel
theorem dX10_order_10 : decode cX10_order 10 = .ok (.ireturn, 1) := by decide +kernel
theorem dX10_order_11 : decode cX10_order 11 = .ok (.aload_n 0, 1) := by decide +kernel
theorem dX10_order_12 : decode cX10_order 12 = .ok (.iconst 2, 1) := by decide +kernel
theorem dX10_order_13 : decode cX10_order 13 = .ok (.invokevirtual 138, 3) := by decide +kernel
theorem dX10_order_16 : decode cX10_order 16 = .ok (.ifCond .eq 10, 3) := by decide +kernel
theorem dX10_order_19 : decode cX10_order 19 = .ok (.aload_n 0, 1) := by decide +kernel
theorem dX10_order_20 : decode cX10_order 20 = .ok (.invokevirtual 134, 3) := by decide +kernel
theorem dX10_order_23 : decode cX10_order 23 = .ok (.ifCond .ne 6, 3) := by decide +kernel
theorem dX10_order_26 : decode cX10_order 26 = .ok (.bipush (-2), 2) := by decide +kernel
theorem dX10_order_28 : decode cX10_order 28 = .ok (.ireturn, 1) := by decide +kernel
theorem dX10_order_29 : decode cX10_order 29 = .ok (.iconst (-1), 1) := by decide +kernel
theorem dX10_order_30 : decode cX10_order 30 = .ok (.istore_n 2, 1) := by decide +kernel
theorem dX10_order_31 : decode cX10_order 31 = .ok (.iconst 0, 1) := by decide +kernel
theorem dX10_order_32 : decode cX10_order 32 = .ok (.istore_n 3, 1) := by decide +kernel
theorem dX10_order_33 : decode cX10_order 33 = .ok (.iconst 0, 1) := by decide +kernel
theorem dX10_order_34 : decode cX10_order 34 = .ok (.istore 4, 2) := by decide +kernel
theorem dX10_order_36 : decode cX10_order 36 = .ok (.iload 4, 2) := by decide +kernel
theorem dX10_order_38 : decode cX10_order 38 = .ok (.iconst 1, 1) := by decide +kernel
theorem dX10_order_39 : decode cX10_order 39 = .ok (.iconst 3, 1) := by decide +kernel
theorem dX10_order_40 : decode cX10_order 40 = .ok (.aload_n 0, 1) := by decide +kernel
theorem dX10_order_41 : decode cX10_order 41 = .ok (.getfield 101, 3) := by decide +kernel
theorem dX10_order_44 : decode cX10_order 44 = .ok (.imul, 1) := by decide +kernel
theorem dX10_order_45 : decode cX10_order 45 = .ok (.ishl, 1) := by decide +kernel
theorem dX10_order_46 : decode cX10_order 46 = .ok (.if_icmp .ge 57, 3) := by decide +kernel
theorem dX10_order_49 : decode cX10_order 49 = .ok (.aload_n 0, 1) := by decide +kernel
theorem dX10_order_50 : decode cX10_order 50 = .ok (.iload 4, 2) := by decide +kernel
theorem dX10_order_52 : decode cX10_order 52 = .ok (.invokevirtual 110, 3) := by decide +kernel
theorem dX10_order_55 : decode cX10_order 55 = .ok (.ifCond .eq 42, 3) := by decide +kernel
theorem dX10_order_58 : decode cX10_order 58 = .ok (.aload_n 0, 1) := by decide +kernel
theorem dX10_order_59 : decode cX10_order 59 = .ok (.iload 4, 2) := by decide +kernel
theorem dX10_order_61 : decode cX10_order 61 = .ok (.invokevirtual 151, 3) := by decide +kernel
theorem dX10_order_64 : decode cX10_order 64 = .ok (.istore 5, 2) := by decide +kernel
theorem dX10_order_66 : decode cX10_order 66 = .ok (.iload_n 2, 1) := by decide +kernel
theorem dX10_order_67 : decode cX10_order 67 = .ok (.ifCond .lt 24, 3) := by decide +kernel
theorem dX10_order_70 : decode cX10_order 70 = .ok (.iload 5, 2) := by decide +kernel
theorem dX10_order_72 : decode cX10_order 72 = .ok (.iload_n 3, 1) := by decide +kernel
theorem dX10_order_73 : decode cX10_order 73 = .ok (.if_icmp .lt 18, 3) := by decide +kernel
theorem dX10_order_76 : decode cX10_order 76 = .ok (.iload 5, 2) := by decide +kernel
theorem dX10_order_78 : decode cX10_order 78 = .ok (.iload_n 3, 1) := by decide +kernel
theorem dX10_order_79 : decode cX10_order 79 = .ok (.if_icmp .ne 18, 3) := by decide +kernel
theorem dX10_order_82 : decode cX10_order 82 = .ok (.iload 4, 2) := by decide +kernel
theorem dX10_order_84 : decode cX10_order 84 = .ok (.iload_n 2, 1) := by decide +kernel
theorem dX10_order_85 : decode cX10_order 85 = .ok (.invokestatic 154, 3) := by decide +kernel
theorem dX10_order_88 : decode cX10_order 88 = .ok (.ifCond .eq 9, 3) := by decide +kernel
theorem dX10_order_91 : decode cX10_order 91 = .ok (.iload 4, 2) := by decide +kernel
theorem dX10_order_93 : decode cX10_order 93 = .ok (.istore_n 2, 1) := by decide +kernel
theorem dX10_order_94 : decode cX10_order 94 = .ok (.iload 5, 2) := by decide +kernel
theorem dX10_order_96 : decode cX10_order 96 = .ok (.istore_n 3, 1) := by decide +kernel
theorem dX10_order_97 : decode cX10_order 97 = .ok (.iinc 4 1, 3) := by decide +kernel
theorem dX10_order_100 : decode cX10_order 100 = .ok (.goto (-64), 3) := by decide +kernel
theorem dX10_order_103 : decode cX10_order 103 = .ok (.iload_n 1, 1) := by decide +kernel
theorem dX10_order_104 : decode cX10_order 104 = .ok (.ifCond .ne 7, 3) := by decide +kernel
theorem dX10_order_107 : decode cX10_order 107 = .ok (.iload_n 2, 1) := by decide +kernel
theorem dX10_order_108 : decode cX10_order 108 = .ok (.goto 4, 3) := by decide +kernel
theorem dX10_order_111 : decode cX10_order 111 = .ok (.iload_n 3, 1) := by decide +kernel
theorem dX10_order_112 : decode cX10_order 112 = .ok (.ireturn, 1) := by decide +kernel
theorem dX10_close_0 : decode cX10_close 0 = .ok (.aload_n 0, 1) := by decide +kernel
theorem dX10_close_1 : decode cX10_close 1 = .ok (.getfield 76, 3) := by decide +kernel
theorem dX10_close_4 : decode cX10_close 4 = .ok (.ifCond .ne 6, 3) := by decide +kernel
theorem dX10_close_7 : decode cX10_close 7 = .ok (.bipush (-2), 2) := by decide +kernel
theorem dX10_close_9 : decode cX10_close 9 = .ok (.ireturn, 1) := by decide +kernel
theorem dX10_close_10 : decode cX10_close 10 = .ok (.aload_n 0, 1) := by decide +kernel
theorem dX10_close_11 : decode cX10_close 11 = .ok (.iload_n 1, 1) := by decide +kernel
theorem dX10_close_12 : decode cX10_close 12 = .ok (.invokevirtual 110, 3) := by decide +kernel
theorem dX10_close_15 : decode cX10_close 15 = .ok (.ifCond .ne 5, 3) := by decide +kernel
theorem dX10_close_18 : decode cX10_close 18 = .ok (.iconst (-1), 1) := by decide +kernel
theorem dX10_close_19 : decode cX10_close 19 = .ok (.ireturn, 1) := by decide +kernel
theorem dX10_close_20 : decode cX10_close 20 = .ok (.aload_n 0, 1) := by decide +kernel
theorem dX10_close_21 : decode cX10_close 21 = .ok (.getfield 94, 3) := by decide +kernel
theorem dX10_close_24 : decode cX10_close 24 = .ok (.aload_n 0, 1) := by decide +kernel
theorem dX10_close_25 : decode cX10_close 25 = .ok (.getfield 104, 3) := by decide +kernel
theorem dX10_close_28 : decode cX10_close 28 = .ok (.if_icmp .ge 6, 3) := by decide +kernel
theorem dX10_close_31 : decode cX10_close 31 = .ok (.bipush (-2), 2) := by decide +kernel
theorem dX10_close_33 : decode cX10_close 33 = .ok (.ireturn, 1) := by decide +kernel
theorem dX10_close_34 : decode cX10_close 34 = .ok (.aload_n 0, 1) := by decide +kernel
theorem dX10_close_35 : decode cX10_close 35 = .ok (.getfield 158, 3) := by decide +kernel
theorem dX10_close_38 : decode cX10_close 38 = .ok (.bipush 20, 2) := by decide +kernel
theorem dX10_close_40 : decode cX10_close 40 = .ok (.if_icmp .ne 6, 3) := by decide +kernel
theorem dX10_close_43 : decode cX10_close 43 = .ok (.bipush (-3), 2) := by decide +kernel
theorem dX10_close_45 : decode cX10_close 45 = .ok (.ireturn, 1) := by decide +kernel
theorem dX10_close_46 : decode cX10_close 46 = .ok (.iconst 0, 1) := by decide +kernel
theorem dX10_close_47 : decode cX10_close 47 = .ok (.istore_n 2, 1) := by decide +kernel
theorem dX10_close_48 : decode cX10_close 48 = .ok (.iconst 0, 1) := by decide +kernel
theorem dX10_close_49 : decode cX10_close 49 = .ok (.istore_n 3, 1) := by decide +kernel
theorem dX10_close_50 : decode cX10_close 50 = .ok (.iload_n 3, 1) := by decide +kernel
theorem dX10_close_51 : decode cX10_close 51 = .ok (.bipush 16, 2) := by decide +kernel
theorem dX10_close_53 : decode cX10_close 53 = .ok (.if_icmp .ge 77, 3) := by decide +kernel
theorem dX10_close_56 : decode cX10_close 56 = .ok (.iload_n 3, 1) := by decide +kernel
theorem dX10_close_57 : decode cX10_close 57 = .ok (.aload_n 0, 1) := by decide +kernel
theorem dX10_close_58 : decode cX10_close 58 = .ok (.getfield 68, 3) := by decide +kernel
theorem dX10_close_61 : decode cX10_close 61 = .ok (.if_icmp .ge 11, 3) := by decide +kernel
theorem dX10_close_64 : decode cX10_close 64 = .ok (.aload_n 0, 1) := by decide +kernel
theorem dX10_close_65 : decode cX10_close 65 = .ok (.iload_n 3, 1) := by decide +kernel
theorem dX10_close_66 : decode cX10_close 66 = .ok (.invokevirtual 126, 3) := by decide +kernel
theorem dX10_close_69 : decode cX10_close 69 = .ok (.goto 5, 3) := by decide +kernel
theorem dX10_close_72 : decode cX10_close 72 = .ok (.bipush (-4), 2) := by decide +kernel
theorem dX10_close_74 : decode cX10_close 74 = .ok (.istore 4, 2) := by decide +kernel
theorem dX10_close_76 : decode cX10_close 76 = .ok (.aload_n 0, 1) := by decide +kernel
theorem dX10_close_77 : decode cX10_close 77 = .ok (.getfield 62, 3) := by decide +kernel
theorem dX10_close_80 : decode cX10_close 80 = .ok (.bipush 16, 2) := by decide +kernel
theorem dX10_close_82 : decode cX10_close 82 = .ok (.aload_n 0, 1) := by decide +kernel
theorem dX10_close_83 : decode cX10_close 83 = .ok (.getfield 158, 3) := by decide +kernel
theorem dX10_close_86 : decode cX10_close 86 = .ok (.imul, 1) := by decide +kernel
theorem dX10_close_87 : decode cX10_close 87 = .ok (.iload_n 3, 1) := by decide +kernel
theorem dX10_close_88 : decode cX10_close 88 = .ok (.iadd, 1) := by decide +kernel
theorem dX10_close_89 : decode cX10_close 89 = .ok (.iload 4, 2) := by decide +kernel
theorem dX10_close_91 : decode cX10_close 91 = .ok (.ifCond .ge 7, 3) := by decide +kernel
theorem dX10_close_94 : decode cX10_close 94 = .ok (.iconst (-1), 1) := by decide +kernel
theorem dX10_close_95 : decode cX10_close 95 = .ok (.goto 14, 3) := by decide +kernel
theorem dX10_close_98 : decode cX10_close 98 = .ok (.iload 4, 2) := by decide +kernel
theorem dX10_close_100 : decode cX10_close 100 = .ok (.iload_n 1, 1) := by decide +kernel
theorem dX10_close_101 : decode cX10_close 101 = .ok (.if_icmp .ne 7, 3) := by decide +kernel
theorem dX10_close_104 : decode cX10_close 104 = .ok (.iconst 1, 1) := by decide +kernel
theorem dX10_close_105 : decode cX10_close 105 = .ok (.goto 4, 3) := by decide +kernel
theorem dX10_close_108 : decode cX10_close 108 = .ok (.iconst 0, 1) := by decide +kernel
theorem dX10_close_109 : decode cX10_close 109 = .ok (.iastore, 1) := by decide +kernel
theorem dX10_close_110 : decode cX10_close 110 = .ok (.iload_n 2, 1) := by decide +kernel
theorem dX10_close_111 : decode cX10_close 111 = .ok (.iload 4, 2) := by decide +kernel
theorem dX10_close_113 : decode cX10_close 113 = .ok (.iload_n 1, 1) := by decide +kernel
theorem dX10_close_114 : decode cX10_close 114 = .ok (.if_icmp .ne 7, 3) := by decide +kernel
theorem dX10_close_117 : decode cX10_close 117 = .ok (.iconst 1, 1) := by decide +kernel
theorem dX10_close_118 : decode cX10_close 118 = .ok (.goto 4, 3) := by decide +kernel
theorem dX10_close_121 : decode cX10_close 121 = .ok (.iconst 0, 1) := by decide +kernel
theorem dX10_close_122 : decode cX10_close 122 = .ok (.iadd, 1) := by decide +kernel
theorem dX10_close_123 : decode cX10_close 123 = .ok (.istore_n 2, 1) := by decide +kernel
theorem dX10_close_124 : decode cX10_close 124 = .ok (.iinc 3 1, 3) := by decide +kernel
theorem dX10_close_127 : decode cX10_close 127 = .ok (.goto (-77), 3) := by decide +kernel
theorem dX10_close_130 : decode cX10_close 130 = .ok (.aload_n 0, 1) := by decide +kernel
theorem dX10_close_131 : decode cX10_close 131 = .ok (.dup, 1) := by decide +kernel
theorem dX10_close_132 : decode cX10_close 132 = .ok (.getfield 158, 3) := by decide +kernel
theorem dX10_close_135 : decode cX10_close 135 = .ok (.iconst 1, 1) := by decide +kernel
theorem dX10_close_136 : decode cX10_close 136 = .ok (.iadd, 1) := by decide +kernel
theorem dX10_close_137 : decode cX10_close 137 = .ok (.putfield 158, 3) := by decide +kernel
theorem dX10_close_140 : decode cX10_close 140 = .ok (.aload_n 0, 1) := by decide +kernel
theorem dX10_close_141 : decode cX10_close 141 = .ok (.iconst 0, 1) := by decide +kernel
theorem dX10_close_142 : decode cX10_close 142 = .ok (.putfield 76, 3) := by decide +kernel
theorem dX10_close_145 : decode cX10_close 145 = .ok (.aload_n 0, 1) := by decide +kernel
theorem dX10_close_146 : decode cX10_close 146 = .ok (.iconst 0, 1) := by decide +kernel
theorem dX10_close_147 : decode cX10_close 147 = .ok (.putfield 107, 3) := by decide +kernel
theorem dX10_close_150 : decode cX10_close 150 = .ok (.iload_n 2, 1) := by decide +kernel
theorem dX10_close_151 : decode cX10_close 151 = .ok (.ireturn, 1) := by decide +kernel
theorem dX10_book_0 : decode cX10_book 0 = .ok (.iload_n 1, 1) := by decide +kernel
theorem dX10_book_1 : decode cX10_book 1 = .ok (.iconst 0, 1) := by decide +kernel
theorem dX10_book_2 : decode cX10_book 2 = .ok (.aload_n 0, 1) := by decide +kernel
theorem dX10_book_3 : decode cX10_book 3 = .ok (.getfield 158, 3) := by decide +kernel
theorem dX10_book_6 : decode cX10_book 6 = .ok (.iconst 1, 1) := by decide +kernel
theorem dX10_book_7 : decode cX10_book 7 = .ok (.isub, 1) := by decide +kernel
theorem dX10_book_8 : decode cX10_book 8 = .ok (.invokestatic 72, 3) := by decide +kernel
theorem dX10_book_11 : decode cX10_book 11 = .ok (.ifCond .eq 25, 3) := by decide +kernel
theorem dX10_book_14 : decode cX10_book 14 = .ok (.aload_n 0, 1) := by decide +kernel
theorem dX10_book_15 : decode cX10_book 15 = .ok (.iload_n 2, 1) := by decide +kernel
theorem dX10_book_16 : decode cX10_book 16 = .ok (.invokevirtual 80, 3) := by decide +kernel
theorem dX10_book_19 : decode cX10_book 19 = .ok (.ifCond .eq 17, 3) := by decide +kernel
theorem dX10_book_22 : decode cX10_book 22 = .ok (.aload_n 0, 1) := by decide +kernel
theorem dX10_book_23 : decode cX10_book 23 = .ok (.getfield 62, 3) := by decide +kernel
theorem dX10_book_26 : decode cX10_book 26 = .ok (.bipush 16, 2) := by decide +kernel
theorem dX10_book_28 : decode cX10_book 28 = .ok (.iload_n 1, 1) := by decide +kernel
theorem dX10_book_29 : decode cX10_book 29 = .ok (.imul, 1) := by decide +kernel
theorem dX10_book_30 : decode cX10_book 30 = .ok (.iload_n 2, 1) := by decide +kernel
theorem dX10_book_31 : decode cX10_book 31 = .ok (.iadd, 1) := by decide +kernel
theorem dX10_book_32 : decode cX10_book 32 = .ok (.iaload, 1) := by decide +kernel
theorem dX10_book_33 : decode cX10_book 33 = .ok (.goto 5, 3) := by decide +kernel
theorem dX10_book_36 : decode cX10_book 36 = .ok (.bipush (-9), 2) := by decide +kernel
theorem dX10_book_38 : decode cX10_book 38 = .ok (.ireturn, 1) := by decide +kernel
theorem dX10_marksOf_0 : decode cX10_marksOf 0 = .ok (.iconst 0, 1) := by decide +kernel
theorem dX10_marksOf_1 : decode cX10_marksOf 1 = .ok (.istore_n 2, 1) := by decide +kernel
theorem dX10_marksOf_2 : decode cX10_marksOf 2 = .ok (.iconst 0, 1) := by decide +kernel
theorem dX10_marksOf_3 : decode cX10_marksOf 3 = .ok (.istore_n 3, 1) := by decide +kernel
theorem dX10_marksOf_4 : decode cX10_marksOf 4 = .ok (.iload_n 3, 1) := by decide +kernel
theorem dX10_marksOf_5 : decode cX10_marksOf 5 = .ok (.aload_n 0, 1) := by decide +kernel
theorem dX10_marksOf_6 : decode cX10_marksOf 6 = .ok (.getfield 158, 3) := by decide +kernel
theorem dX10_marksOf_9 : decode cX10_marksOf 9 = .ok (.if_icmp .ge 32, 3) := by decide +kernel
theorem dX10_marksOf_12 : decode cX10_marksOf 12 = .ok (.iload_n 2, 1) := by decide +kernel
theorem dX10_marksOf_13 : decode cX10_marksOf 13 = .ok (.aload_n 0, 1) := by decide +kernel
theorem dX10_marksOf_14 : decode cX10_marksOf 14 = .ok (.getfield 62, 3) := by decide +kernel
theorem dX10_marksOf_17 : decode cX10_marksOf 17 = .ok (.bipush 16, 2) := by decide +kernel
theorem dX10_marksOf_19 : decode cX10_marksOf 19 = .ok (.iload_n 3, 1) := by decide +kernel
theorem dX10_marksOf_20 : decode cX10_marksOf 20 = .ok (.imul, 1) := by decide +kernel
theorem dX10_marksOf_21 : decode cX10_marksOf 21 = .ok (.iload_n 1, 1) := by decide +kernel
theorem dX10_marksOf_22 : decode cX10_marksOf 22 = .ok (.iadd, 1) := by decide +kernel
theorem dX10_marksOf_23 : decode cX10_marksOf 23 = .ok (.iaload, 1) := by decide +kernel
theorem dX10_marksOf_24 : decode cX10_marksOf 24 = .ok (.iconst 1, 1) := by decide +kernel
theorem dX10_marksOf_25 : decode cX10_marksOf 25 = .ok (.if_icmp .ne 7, 3) := by decide +kernel
theorem dX10_marksOf_28 : decode cX10_marksOf 28 = .ok (.iconst 1, 1) := by decide +kernel
theorem dX10_marksOf_29 : decode cX10_marksOf 29 = .ok (.goto 4, 3) := by decide +kernel
theorem dX10_marksOf_32 : decode cX10_marksOf 32 = .ok (.iconst 0, 1) := by decide +kernel
theorem dX10_marksOf_33 : decode cX10_marksOf 33 = .ok (.iadd, 1) := by decide +kernel
theorem dX10_marksOf_34 : decode cX10_marksOf 34 = .ok (.istore_n 2, 1) := by decide +kernel
theorem dX10_marksOf_35 : decode cX10_marksOf 35 = .ok (.iinc 3 1, 3) := by decide +kernel
theorem dX10_marksOf_38 : decode cX10_marksOf 38 = .ok (.goto (-34), 3) := by decide +kernel
theorem dX10_marksOf_41 : decode cX10_marksOf 41 = .ok (.iload_n 2, 1) := by decide +kernel
theorem dX10_marksOf_42 : decode cX10_marksOf 42 = .ok (.ireturn, 1) := by decide +kernel
theorem dX10_marks_0 : decode cX10_marks 0 = .ok (.aload_n 0, 1) := by decide +kernel
theorem dX10_marks_1 : decode cX10_marks 1 = .ok (.iload_n 1, 1) := by decide +kernel
theorem dX10_marks_2 : decode cX10_marks 2 = .ok (.invokevirtual 80, 3) := by decide +kernel
theorem dX10_marks_5 : decode cX10_marks 5 = .ok (.ifCond .eq 11, 3) := by decide +kernel
theorem dX10_marks_8 : decode cX10_marks 8 = .ok (.aload_n 0, 1) := by decide +kernel
theorem dX10_marks_9 : decode cX10_marks 9 = .ok (.iload_n 1, 1) := by decide +kernel
theorem dX10_marks_10 : decode cX10_marks 10 = .ok (.invokevirtual 161, 3) := by decide +kernel
theorem dX10_marks_13 : decode cX10_marks 13 = .ok (.goto 4, 3) := by decide +kernel
theorem dX10_marks_16 : decode cX10_marks 16 = .ok (.iconst (-1), 1) := by decide +kernel
theorem dX10_marks_17 : decode cX10_marks 17 = .ok (.ireturn, 1) := by decide +kernel
theorem dX10_sizeOf_0 : decode cX10_sizeOf 0 = .ok (.iconst 0, 1) := by decide +kernel
theorem dX10_sizeOf_1 : decode cX10_sizeOf 1 = .ok (.istore_n 1, 1) := by decide +kernel
theorem dX10_sizeOf_2 : decode cX10_sizeOf 2 = .ok (.iconst 0, 1) := by decide +kernel
theorem dX10_sizeOf_3 : decode cX10_sizeOf 3 = .ok (.istore_n 2, 1) := by decide +kernel
theorem dX10_sizeOf_4 : decode cX10_sizeOf 4 = .ok (.iload_n 2, 1) := by decide +kernel
theorem dX10_sizeOf_5 : decode cX10_sizeOf 5 = .ok (.bipush 16, 2) := by decide +kernel
theorem dX10_sizeOf_7 : decode cX10_sizeOf 7 = .ok (.if_icmp .ge 17, 3) := by decide +kernel
theorem dX10_sizeOf_10 : decode cX10_sizeOf 10 = .ok (.iload_n 1, 1) := by decide +kernel
theorem dX10_sizeOf_11 : decode cX10_sizeOf 11 = .ok (.iload_n 0, 1) := by decide +kernel
theorem dX10_sizeOf_12 : decode cX10_sizeOf 12 = .ok (.iload_n 2, 1) := by decide +kernel
theorem dX10_sizeOf_13 : decode cX10_sizeOf 13 = .ok (.ishr, 1) := by decide +kernel
theorem dX10_sizeOf_14 : decode cX10_sizeOf 14 = .ok (.iconst 1, 1) := by decide +kernel
theorem dX10_sizeOf_15 : decode cX10_sizeOf 15 = .ok (.iand, 1) := by decide +kernel
theorem dX10_sizeOf_16 : decode cX10_sizeOf 16 = .ok (.iadd, 1) := by decide +kernel
theorem dX10_sizeOf_17 : decode cX10_sizeOf 17 = .ok (.istore_n 1, 1) := by decide +kernel
theorem dX10_sizeOf_18 : decode cX10_sizeOf 18 = .ok (.iinc 2 1, 3) := by decide +kernel
theorem dX10_sizeOf_21 : decode cX10_sizeOf 21 = .ok (.goto (-17), 3) := by decide +kernel
theorem dX10_sizeOf_24 : decode cX10_sizeOf 24 = .ok (.iload_n 1, 1) := by decide +kernel
theorem dX10_sizeOf_25 : decode cX10_sizeOf 25 = .ok (.ireturn, 1) := by decide +kernel
theorem dX10_marksIn_0 : decode cX10_marksIn 0 = .ok (.iconst 0, 1) := by decide +kernel
theorem dX10_marksIn_1 : decode cX10_marksIn 1 = .ok (.istore_n 2, 1) := by decide +kernel
theorem dX10_marksIn_2 : decode cX10_marksIn 2 = .ok (.iconst 0, 1) := by decide +kernel
theorem dX10_marksIn_3 : decode cX10_marksIn 3 = .ok (.istore_n 3, 1) := by decide +kernel
theorem dX10_marksIn_4 : decode cX10_marksIn 4 = .ok (.iload_n 3, 1) := by decide +kernel
theorem dX10_marksIn_5 : decode cX10_marksIn 5 = .ok (.aload_n 0, 1) := by decide +kernel
theorem dX10_marksIn_6 : decode cX10_marksIn 6 = .ok (.getfield 68, 3) := by decide +kernel
theorem dX10_marksIn_9 : decode cX10_marksIn 9 = .ok (.if_icmp .ge 30, 3) := by decide +kernel
theorem dX10_marksIn_12 : decode cX10_marksIn 12 = .ok (.iload_n 2, 1) := by decide +kernel
theorem dX10_marksIn_13 : decode cX10_marksIn 13 = .ok (.iload_n 1, 1) := by decide +kernel
theorem dX10_marksIn_14 : decode cX10_marksIn 14 = .ok (.iload_n 3, 1) := by decide +kernel
theorem dX10_marksIn_15 : decode cX10_marksIn 15 = .ok (.ishr, 1) := by decide +kernel
theorem dX10_marksIn_16 : decode cX10_marksIn 16 = .ok (.iconst 1, 1) := by decide +kernel
theorem dX10_marksIn_17 : decode cX10_marksIn 17 = .ok (.iand, 1) := by decide +kernel
theorem dX10_marksIn_18 : decode cX10_marksIn 18 = .ok (.iconst 1, 1) := by decide +kernel
theorem dX10_marksIn_19 : decode cX10_marksIn 19 = .ok (.if_icmp .ne 11, 3) := by decide +kernel
theorem dX10_marksIn_22 : decode cX10_marksIn 22 = .ok (.aload_n 0, 1) := by decide +kernel
theorem dX10_marksIn_23 : decode cX10_marksIn 23 = .ok (.iload_n 3, 1) := by decide +kernel
theorem dX10_marksIn_24 : decode cX10_marksIn 24 = .ok (.invokevirtual 161, 3) := by decide +kernel
theorem dX10_marksIn_27 : decode cX10_marksIn 27 = .ok (.goto 4, 3) := by decide +kernel
theorem dX10_marksIn_30 : decode cX10_marksIn 30 = .ok (.iconst 0, 1) := by decide +kernel
theorem dX10_marksIn_31 : decode cX10_marksIn 31 = .ok (.iadd, 1) := by decide +kernel
theorem dX10_marksIn_32 : decode cX10_marksIn 32 = .ok (.istore_n 2, 1) := by decide +kernel
theorem dX10_marksIn_33 : decode cX10_marksIn 33 = .ok (.iinc 3 1, 3) := by decide +kernel
theorem dX10_marksIn_36 : decode cX10_marksIn 36 = .ok (.goto (-32), 3) := by decide +kernel
theorem dX10_marksIn_39 : decode cX10_marksIn 39 = .ok (.iload_n 2, 1) := by decide +kernel
theorem dX10_marksIn_40 : decode cX10_marksIn 40 = .ok (.ireturn, 1) := by decide +kernel
theorem dX10_teams_0 : decode cX10_teams 0 = .ok (.iload_n 1, 1) := by decide +kernel
theorem dX10_teams_1 : decode cX10_teams 1 = .ok (.iconst 0, 1) := by decide +kernel
theorem dX10_teams_2 : decode cX10_teams 2 = .ok (.iconst 1, 1) := by decide +kernel
theorem dX10_teams_3 : decode cX10_teams 3 = .ok (.aload_n 0, 1) := by decide +kernel
theorem dX10_teams_4 : decode cX10_teams 4 = .ok (.getfield 68, 3) := by decide +kernel
theorem dX10_teams_7 : decode cX10_teams 7 = .ok (.ishl, 1) := by decide +kernel
theorem dX10_teams_8 : decode cX10_teams 8 = .ok (.iconst 1, 1) := by decide +kernel
theorem dX10_teams_9 : decode cX10_teams 9 = .ok (.isub, 1) := by decide +kernel
theorem dX10_teams_10 : decode cX10_teams 10 = .ok (.invokestatic 72, 3) := by decide +kernel
theorem dX10_teams_13 : decode cX10_teams 13 = .ok (.ifCond .eq 25, 3) := by decide +kernel
theorem dX10_teams_16 : decode cX10_teams 16 = .ok (.iload_n 1, 1) := by decide +kernel
theorem dX10_teams_17 : decode cX10_teams 17 = .ok (.invokestatic 164, 3) := by decide +kernel
theorem dX10_teams_20 : decode cX10_teams 20 = .ok (.iconst 2, 1) := by decide +kernel
theorem dX10_teams_21 : decode cX10_teams 21 = .ok (.bipush 12, 2) := by decide +kernel
theorem dX10_teams_23 : decode cX10_teams 23 = .ok (.invokestatic 72, 3) := by decide +kernel
theorem dX10_teams_26 : decode cX10_teams 26 = .ok (.ifCond .eq 12, 3) := by decide +kernel
theorem dX10_teams_29 : decode cX10_teams 29 = .ok (.iload_n 2, 1) := by decide +kernel
theorem dX10_teams_30 : decode cX10_teams 30 = .ok (.iconst 0, 1) := by decide +kernel
theorem dX10_teams_31 : decode cX10_teams 31 = .ok (.iconst 1, 1) := by decide +kernel
theorem dX10_teams_32 : decode cX10_teams 32 = .ok (.invokestatic 72, 3) := by decide +kernel
theorem dX10_teams_35 : decode cX10_teams 35 = .ok (.ifCond .ne 5, 3) := by decide +kernel
theorem dX10_teams_38 : decode cX10_teams 38 = .ok (.iconst (-1), 1) := by decide +kernel
theorem dX10_teams_39 : decode cX10_teams 39 = .ok (.ireturn, 1) := by decide +kernel
theorem dX10_teams_40 : decode cX10_teams 40 = .ok (.iconst 0, 1) := by decide +kernel
theorem dX10_teams_41 : decode cX10_teams 41 = .ok (.istore_n 3, 1) := by decide +kernel
theorem dX10_teams_42 : decode cX10_teams 42 = .ok (.sipush 9999, 3) := by decide +kernel
theorem dX10_teams_45 : decode cX10_teams 45 = .ok (.istore 4, 2) := by decide +kernel
theorem dX10_teams_47 : decode cX10_teams 47 = .ok (.iload_n 1, 1) := by decide +kernel
theorem dX10_teams_48 : decode cX10_teams 48 = .ok (.iload_n 1, 1) := by decide +kernel
theorem dX10_teams_49 : decode cX10_teams 49 = .ok (.ineg, 1) := by decide +kernel
theorem dX10_teams_50 : decode cX10_teams 50 = .ok (.iand, 1) := by decide +kernel
theorem dX10_teams_51 : decode cX10_teams 51 = .ok (.istore 5, 2) := by decide +kernel
theorem dX10_teams_53 : decode cX10_teams 53 = .ok (.iload_n 1, 1) := by decide +kernel
theorem dX10_teams_54 : decode cX10_teams 54 = .ok (.istore 6, 2) := by decide +kernel
theorem dX10_teams_56 : decode cX10_teams 56 = .ok (.iload 6, 2) := by decide +kernel
theorem dX10_teams_58 : decode cX10_teams 58 = .ok (.ifCond .le 89, 3) := by decide +kernel
theorem dX10_teams_61 : decode cX10_teams 61 = .ok (.aload_n 0, 1) := by decide +kernel
theorem dX10_teams_62 : decode cX10_teams 62 = .ok (.iload 6, 2) := by decide +kernel
theorem dX10_teams_64 : decode cX10_teams 64 = .ok (.invokevirtual 167, 3) := by decide +kernel
theorem dX10_teams_67 : decode cX10_teams 67 = .ok (.aload_n 0, 1) := by decide +kernel
theorem dX10_teams_68 : decode cX10_teams 68 = .ok (.iload_n 1, 1) := by decide +kernel
theorem dX10_teams_69 : decode cX10_teams 69 = .ok (.iload 6, 2) := by decide +kernel
theorem dX10_teams_71 : decode cX10_teams 71 = .ok (.iconst (-1), 1) := by decide +kernel
theorem dX10_teams_72 : decode cX10_teams 72 = .ok (.ixor, 1) := by decide +kernel
theorem dX10_teams_73 : decode cX10_teams 73 = .ok (.iand, 1) := by decide +kernel
theorem dX10_teams_74 : decode cX10_teams 74 = .ok (.invokevirtual 167, 3) := by decide +kernel
theorem dX10_teams_77 : decode cX10_teams 77 = .ok (.isub, 1) := by decide +kernel
theorem dX10_teams_78 : decode cX10_teams 78 = .ok (.invokestatic 144, 3) := by decide +kernel
theorem dX10_teams_81 : decode cX10_teams 81 = .ok (.istore 7, 2) := by decide +kernel
theorem dX10_teams_83 : decode cX10_teams 83 = .ok (.iload 6, 2) := by decide +kernel
theorem dX10_teams_85 : decode cX10_teams 85 = .ok (.iload 5, 2) := by decide +kernel
theorem dX10_teams_87 : decode cX10_teams 87 = .ok (.iand, 1) := by decide +kernel
theorem dX10_teams_88 : decode cX10_teams 88 = .ok (.ifCond .le 26, 3) := by decide +kernel
theorem dX10_teams_91 : decode cX10_teams 91 = .ok (.iconst 2, 1) := by decide +kernel
theorem dX10_teams_92 : decode cX10_teams 92 = .ok (.iload 6, 2) := by decide +kernel
theorem dX10_teams_94 : decode cX10_teams 94 = .ok (.invokestatic 164, 3) := by decide +kernel
theorem dX10_teams_97 : decode cX10_teams 97 = .ok (.imul, 1) := by decide +kernel
theorem dX10_teams_98 : decode cX10_teams 98 = .ok (.iload_n 1, 1) := by decide +kernel
theorem dX10_teams_99 : decode cX10_teams 99 = .ok (.invokestatic 164, 3) := by decide +kernel
theorem dX10_teams_102 : decode cX10_teams 102 = .ok (.isub, 1) := by decide +kernel
theorem dX10_teams_103 : decode cX10_teams 103 = .ok (.invokestatic 144, 3) := by decide +kernel
theorem dX10_teams_106 : decode cX10_teams 106 = .ok (.iconst 1, 1) := by decide +kernel
theorem dX10_teams_107 : decode cX10_teams 107 = .ok (.if_icmp .gt 7, 3) := by decide +kernel
theorem dX10_teams_110 : decode cX10_teams 110 = .ok (.iconst 1, 1) := by decide +kernel
theorem dX10_teams_111 : decode cX10_teams 111 = .ok (.goto 4, 3) := by decide +kernel
theorem dX10_teams_114 : decode cX10_teams 114 = .ok (.iconst 0, 1) := by decide +kernel
theorem dX10_teams_115 : decode cX10_teams 115 = .ok (.istore 8, 2) := by decide +kernel
theorem dX10_teams_117 : decode cX10_teams 117 = .ok (.iload 8, 2) := by decide +kernel
theorem dX10_teams_119 : decode cX10_teams 119 = .ok (.ifCond .eq 17, 3) := by decide +kernel
theorem dX10_teams_122 : decode cX10_teams 122 = .ok (.iload 7, 2) := by decide +kernel
theorem dX10_teams_124 : decode cX10_teams 124 = .ok (.iload 4, 2) := by decide +kernel
theorem dX10_teams_126 : decode cX10_teams 126 = .ok (.if_icmp .gt 10, 3) := by decide +kernel
theorem dX10_teams_129 : decode cX10_teams 129 = .ok (.iload 6, 2) := by decide +kernel
theorem dX10_teams_131 : decode cX10_teams 131 = .ok (.istore_n 3, 1) := by decide +kernel
theorem dX10_teams_132 : decode cX10_teams 132 = .ok (.iload 7, 2) := by decide +kernel
theorem dX10_teams_134 : decode cX10_teams 134 = .ok (.istore 4, 2) := by decide +kernel
theorem dX10_teams_136 : decode cX10_teams 136 = .ok (.iload 6, 2) := by decide +kernel
theorem dX10_teams_138 : decode cX10_teams 138 = .ok (.iconst 1, 1) := by decide +kernel
theorem dX10_teams_139 : decode cX10_teams 139 = .ok (.isub, 1) := by decide +kernel
theorem dX10_teams_140 : decode cX10_teams 140 = .ok (.iload_n 1, 1) := by decide +kernel
theorem dX10_teams_141 : decode cX10_teams 141 = .ok (.iand, 1) := by decide +kernel
theorem dX10_teams_142 : decode cX10_teams 142 = .ok (.istore 6, 2) := by decide +kernel
theorem dX10_teams_144 : decode cX10_teams 144 = .ok (.goto (-88), 3) := by decide +kernel
theorem dX10_teams_147 : decode cX10_teams 147 = .ok (.iload_n 2, 1) := by decide +kernel
theorem dX10_teams_148 : decode cX10_teams 148 = .ok (.ifCond .ne 7, 3) := by decide +kernel
theorem dX10_teams_151 : decode cX10_teams 151 = .ok (.iload_n 3, 1) := by decide +kernel
theorem dX10_teams_152 : decode cX10_teams 152 = .ok (.goto 5, 3) := by decide +kernel
theorem dX10_teams_155 : decode cX10_teams 155 = .ok (.iload 4, 2) := by decide +kernel
theorem dX10_teams_157 : decode cX10_teams 157 = .ok (.ireturn, 1) := by decide +kernel
theorem dX10_best_0 : decode cX10_best 0 = .ok (.bipush (-4), 2) := by decide +kernel
theorem dX10_best_2 : decode cX10_best 2 = .ok (.istore_n 1, 1) := by decide +kernel
theorem dX10_best_3 : decode cX10_best 3 = .ok (.iconst (-1), 1) := by decide +kernel
theorem dX10_best_4 : decode cX10_best 4 = .ok (.istore_n 2, 1) := by decide +kernel
theorem dX10_best_5 : decode cX10_best 5 = .ok (.iconst 0, 1) := by decide +kernel
theorem dX10_best_6 : decode cX10_best 6 = .ok (.istore_n 3, 1) := by decide +kernel
theorem dX10_best_7 : decode cX10_best 7 = .ok (.iload_n 3, 1) := by decide +kernel
theorem dX10_best_8 : decode cX10_best 8 = .ok (.aload_n 0, 1) := by decide +kernel
theorem dX10_best_9 : decode cX10_best 9 = .ok (.getfield 158, 3) := by decide +kernel
theorem dX10_best_12 : decode cX10_best 12 = .ok (.if_icmp .ge 123, 3) := by decide +kernel
theorem dX10_best_15 : decode cX10_best 15 = .ok (.iconst 0, 1) := by decide +kernel
theorem dX10_best_16 : decode cX10_best 16 = .ok (.istore 4, 2) := by decide +kernel
theorem dX10_best_18 : decode cX10_best 18 = .ok (.iconst 0, 1) := by decide +kernel
theorem dX10_best_19 : decode cX10_best 19 = .ok (.istore 5, 2) := by decide +kernel
theorem dX10_best_21 : decode cX10_best 21 = .ok (.iconst 0, 1) := by decide +kernel
theorem dX10_best_22 : decode cX10_best 22 = .ok (.istore 6, 2) := by decide +kernel
theorem dX10_best_24 : decode cX10_best 24 = .ok (.iload 6, 2) := by decide +kernel
theorem dX10_best_26 : decode cX10_best 26 = .ok (.bipush 16, 2) := by decide +kernel
theorem dX10_best_28 : decode cX10_best 28 = .ok (.if_icmp .ge 60, 3) := by decide +kernel
theorem dX10_best_31 : decode cX10_best 31 = .ok (.iload 4, 2) := by decide +kernel
theorem dX10_best_33 : decode cX10_best 33 = .ok (.aload_n 0, 1) := by decide +kernel
theorem dX10_best_34 : decode cX10_best 34 = .ok (.getfield 62, 3) := by decide +kernel
theorem dX10_best_37 : decode cX10_best 37 = .ok (.bipush 16, 2) := by decide +kernel
theorem dX10_best_39 : decode cX10_best 39 = .ok (.iload_n 3, 1) := by decide +kernel
theorem dX10_best_40 : decode cX10_best 40 = .ok (.imul, 1) := by decide +kernel
theorem dX10_best_41 : decode cX10_best 41 = .ok (.iload 6, 2) := by decide +kernel
theorem dX10_best_43 : decode cX10_best 43 = .ok (.iadd, 1) := by decide +kernel
theorem dX10_best_44 : decode cX10_best 44 = .ok (.iaload, 1) := by decide +kernel
theorem dX10_best_45 : decode cX10_best 45 = .ok (.iconst 1, 1) := by decide +kernel
theorem dX10_best_46 : decode cX10_best 46 = .ok (.if_icmp .ne 7, 3) := by decide +kernel
theorem dX10_best_49 : decode cX10_best 49 = .ok (.iconst 1, 1) := by decide +kernel
theorem dX10_best_50 : decode cX10_best 50 = .ok (.goto 4, 3) := by decide +kernel
theorem dX10_best_53 : decode cX10_best 53 = .ok (.iconst 0, 1) := by decide +kernel
theorem dX10_best_54 : decode cX10_best 54 = .ok (.iadd, 1) := by decide +kernel
theorem dX10_best_55 : decode cX10_best 55 = .ok (.istore 4, 2) := by decide +kernel
theorem dX10_best_57 : decode cX10_best 57 = .ok (.iload 5, 2) := by decide +kernel
theorem dX10_best_59 : decode cX10_best 59 = .ok (.aload_n 0, 1) := by decide +kernel
theorem dX10_best_60 : decode cX10_best 60 = .ok (.getfield 62, 3) := by decide +kernel
theorem dX10_best_63 : decode cX10_best 63 = .ok (.bipush 16, 2) := by decide +kernel
theorem dX10_best_65 : decode cX10_best 65 = .ok (.iload_n 3, 1) := by decide +kernel
theorem dX10_best_66 : decode cX10_best 66 = .ok (.imul, 1) := by decide +kernel
theorem dX10_best_67 : decode cX10_best 67 = .ok (.iload 6, 2) := by decide +kernel
theorem dX10_best_69 : decode cX10_best 69 = .ok (.iadd, 1) := by decide +kernel
theorem dX10_best_70 : decode cX10_best 70 = .ok (.iaload, 1) := by decide +kernel
theorem dX10_best_71 : decode cX10_best 71 = .ok (.ifCond .ne 7, 3) := by decide +kernel
theorem dX10_best_74 : decode cX10_best 74 = .ok (.iconst 1, 1) := by decide +kernel
theorem dX10_best_75 : decode cX10_best 75 = .ok (.goto 4, 3) := by decide +kernel
theorem dX10_best_78 : decode cX10_best 78 = .ok (.iconst 0, 1) := by decide +kernel
theorem dX10_best_79 : decode cX10_best 79 = .ok (.iadd, 1) := by decide +kernel
theorem dX10_best_80 : decode cX10_best 80 = .ok (.istore 5, 2) := by decide +kernel
theorem dX10_best_82 : decode cX10_best 82 = .ok (.iinc 6 1, 3) := by decide +kernel
theorem dX10_best_85 : decode cX10_best 85 = .ok (.goto (-61), 3) := by decide +kernel
theorem dX10_best_88 : decode cX10_best 88 = .ok (.iload 4, 2) := by decide +kernel
theorem dX10_best_90 : decode cX10_best 90 = .ok (.iload 5, 2) := by decide +kernel
theorem dX10_best_92 : decode cX10_best 92 = .ok (.if_icmp .ge 8, 3) := by decide +kernel
theorem dX10_best_95 : decode cX10_best 95 = .ok (.iload 4, 2) := by decide +kernel
theorem dX10_best_97 : decode cX10_best 97 = .ok (.goto 5, 3) := by decide +kernel
theorem dX10_best_100 : decode cX10_best 100 = .ok (.iload 5, 2) := by decide +kernel
theorem dX10_best_102 : decode cX10_best 102 = .ok (.istore 6, 2) := by decide +kernel
theorem dX10_best_104 : decode cX10_best 104 = .ok (.iload 6, 2) := by decide +kernel
theorem dX10_best_106 : decode cX10_best 106 = .ok (.iload_n 2, 1) := by decide +kernel
theorem dX10_best_107 : decode cX10_best 107 = .ok (.if_icmp .lt 7, 3) := by decide +kernel
theorem dX10_best_110 : decode cX10_best 110 = .ok (.iload_n 3, 1) := by decide +kernel
theorem dX10_best_111 : decode cX10_best 111 = .ok (.goto 4, 3) := by decide +kernel
theorem dX10_best_114 : decode cX10_best 114 = .ok (.iload_n 1, 1) := by decide +kernel
theorem dX10_best_115 : decode cX10_best 115 = .ok (.istore_n 1, 1) := by decide +kernel
theorem dX10_best_116 : decode cX10_best 116 = .ok (.iload 6, 2) := by decide +kernel
theorem dX10_best_118 : decode cX10_best 118 = .ok (.iload_n 2, 1) := by decide +kernel
theorem dX10_best_119 : decode cX10_best 119 = .ok (.if_icmp .lt 8, 3) := by decide +kernel
theorem dX10_best_122 : decode cX10_best 122 = .ok (.iload 6, 2) := by decide +kernel
theorem dX10_best_124 : decode cX10_best 124 = .ok (.goto 4, 3) := by decide +kernel
theorem dX10_best_127 : decode cX10_best 127 = .ok (.iload_n 2, 1) := by decide +kernel
theorem dX10_best_128 : decode cX10_best 128 = .ok (.istore_n 2, 1) := by decide +kernel
theorem dX10_best_129 : decode cX10_best 129 = .ok (.iinc 3 1, 3) := by decide +kernel
theorem dX10_best_132 : decode cX10_best 132 = .ok (.goto (-125), 3) := by decide +kernel
theorem dX10_best_135 : decode cX10_best 135 = .ok (.iload_n 1, 1) := by decide +kernel
theorem dX10_best_136 : decode cX10_best 136 = .ok (.ireturn, 1) := by decide +kernel
theorem dX10_seed_0 : decode cX10_seed 0 = .ok (.iload_n 1, 1) := by decide +kernel
theorem dX10_seed_1 : decode cX10_seed 1 = .ok (.iconst 1, 1) := by decide +kernel
theorem dX10_seed_2 : decode cX10_seed 2 = .ok (.ldc 170, 2) := by decide +kernel
theorem dX10_seed_4 : decode cX10_seed 4 = .ok (.invokestatic 72, 3) := by decide +kernel
theorem dX10_seed_7 : decode cX10_seed 7 = .ok (.ifCond .ne 5, 3) := by decide +kernel
theorem dX10_seed_10 : decode cX10_seed 10 = .ok (.iconst (-1), 1) := by decide +kernel
theorem dX10_seed_11 : decode cX10_seed 11 = .ok (.ireturn, 1) := by decide +kernel
theorem dX10_seed_12 : decode cX10_seed 12 = .ok (.aload_n 0, 1) := by decide +kernel
theorem dX10_seed_13 : decode cX10_seed 13 = .ok (.iload_n 1, 1) := by decide +kernel
theorem dX10_seed_14 : decode cX10_seed 14 = .ok (.i2l, 1) := by decide +kernel
theorem dX10_seed_15 : decode cX10_seed 15 = .ok (.putfield 171, 3) := by decide +kernel
theorem dX10_seed_18 : decode cX10_seed 18 = .ok (.aload_n 0, 1) := by decide +kernel
theorem dX10_seed_19 : decode cX10_seed 19 = .ok (.iconst 0, 1) := by decide +kernel
theorem dX10_seed_20 : decode cX10_seed 20 = .ok (.putfield 175, 3) := by decide +kernel
theorem dX10_seed_23 : decode cX10_seed 23 = .ok (.aload_n 0, 1) := by decide +kernel
theorem dX10_seed_24 : decode cX10_seed 24 = .ok (.getfield 68, 3) := by decide +kernel
theorem dX10_seed_27 : decode cX10_seed 27 = .ok (.ireturn, 1) := by decide +kernel
theorem dX10_draw_0 : decode cX10_draw 0 = .ok (.aload_n 0, 1) := by decide +kernel
theorem dX10_draw_1 : decode cX10_draw 1 = .ok (.getfield 171, 3) := by decide +kernel
theorem dX10_draw_4 : decode cX10_draw 4 = .ok (.lconst 0, 1) := by decide +kernel
theorem dX10_draw_5 : decode cX10_draw 5 = .ok (.lcmp, 1) := by decide +kernel
theorem dX10_draw_6 : decode cX10_draw 6 = .ok (.ifCond .ne 6, 3) := by decide +kernel
theorem dX10_draw_9 : decode cX10_draw 9 = .ok (.bipush (-2), 2) := by decide +kernel
theorem dX10_draw_11 : decode cX10_draw 11 = .ok (.ireturn, 1) := by decide +kernel
theorem dX10_draw_12 : decode cX10_draw 12 = .ok (.aload_n 0, 1) := by decide +kernel
theorem dX10_draw_13 : decode cX10_draw 13 = .ok (.getfield 68, 3) := by decide +kernel
theorem dX10_draw_16 : decode cX10_draw 16 = .ok (.aload_n 0, 1) := by decide +kernel
theorem dX10_draw_17 : decode cX10_draw 17 = .ok (.getfield 175, 3) := by decide +kernel
theorem dX10_draw_20 : decode cX10_draw 20 = .ok (.invokestatic 164, 3) := by decide +kernel
theorem dX10_draw_23 : decode cX10_draw 23 = .ok (.isub, 1) := by decide +kernel
theorem dX10_draw_24 : decode cX10_draw 24 = .ok (.istore_n 1, 1) := by decide +kernel
theorem dX10_draw_25 : decode cX10_draw 25 = .ok (.iload_n 1, 1) := by decide +kernel
theorem dX10_draw_26 : decode cX10_draw 26 = .ok (.ifCond .ne 6, 3) := by decide +kernel
theorem dX10_draw_29 : decode cX10_draw 29 = .ok (.bipush (-4), 2) := by decide +kernel
theorem dX10_draw_31 : decode cX10_draw 31 = .ok (.ireturn, 1) := by decide +kernel
theorem dX10_draw_32 : decode cX10_draw 32 = .ok (.aload_n 0, 1) := by decide +kernel
theorem dX10_draw_33 : decode cX10_draw 33 = .ok (.aload_n 0, 1) := by decide +kernel
theorem dX10_draw_34 : decode cX10_draw 34 = .ok (.getfield 171, 3) := by decide +kernel
theorem dX10_draw_37 : decode cX10_draw 37 = .ok (.ldc2_w 178, 3) := by decide +kernel
theorem dX10_draw_40 : decode cX10_draw 40 = .ok (.lmul, 1) := by decide +kernel
theorem dX10_draw_41 : decode cX10_draw 41 = .ok (.ldc2_w 180, 3) := by decide +kernel
theorem dX10_draw_44 : decode cX10_draw 44 = .ok (.lrem, 1) := by decide +kernel
theorem dX10_draw_45 : decode cX10_draw 45 = .ok (.putfield 171, 3) := by decide +kernel
theorem dX10_draw_48 : decode cX10_draw 48 = .ok (.aload_n 0, 1) := by decide +kernel
theorem dX10_draw_49 : decode cX10_draw 49 = .ok (.getfield 171, 3) := by decide +kernel
theorem dX10_draw_52 : decode cX10_draw 52 = .ok (.iload_n 1, 1) := by decide +kernel
theorem dX10_draw_53 : decode cX10_draw 53 = .ok (.i2l, 1) := by decide +kernel
theorem dX10_draw_54 : decode cX10_draw 54 = .ok (.lrem, 1) := by decide +kernel
theorem dX10_draw_55 : decode cX10_draw 55 = .ok (.l2i, 1) := by decide +kernel
theorem dX10_draw_56 : decode cX10_draw 56 = .ok (.istore_n 2, 1) := by decide +kernel
theorem dX10_draw_57 : decode cX10_draw 57 = .ok (.iconst 0, 1) := by decide +kernel
theorem dX10_draw_58 : decode cX10_draw 58 = .ok (.istore_n 3, 1) := by decide +kernel
theorem dX10_draw_59 : decode cX10_draw 59 = .ok (.aload_n 0, 1) := by decide +kernel
theorem dX10_draw_60 : decode cX10_draw 60 = .ok (.getfield 175, 3) := by decide +kernel
theorem dX10_draw_63 : decode cX10_draw 63 = .ok (.iload_n 3, 1) := by decide +kernel
theorem dX10_draw_64 : decode cX10_draw 64 = .ok (.ishr, 1) := by decide +kernel
theorem dX10_draw_65 : decode cX10_draw 65 = .ok (.iconst 1, 1) := by decide +kernel
theorem dX10_draw_66 : decode cX10_draw 66 = .ok (.iand, 1) := by decide +kernel
theorem dX10_draw_67 : decode cX10_draw 67 = .ok (.iconst 1, 1) := by decide +kernel
theorem dX10_draw_68 : decode cX10_draw 68 = .ok (.if_icmp .eq 7, 3) := by decide +kernel
theorem dX10_draw_71 : decode cX10_draw 71 = .ok (.iload_n 2, 1) := by decide +kernel
theorem dX10_draw_72 : decode cX10_draw 72 = .ok (.ifCond .le 29, 3) := by decide +kernel
theorem dX10_draw_75 : decode cX10_draw 75 = .ok (.iload_n 2, 1) := by decide +kernel
theorem dX10_draw_76 : decode cX10_draw 76 = .ok (.aload_n 0, 1) := by decide +kernel
theorem dX10_draw_77 : decode cX10_draw 77 = .ok (.getfield 175, 3) := by decide +kernel
theorem dX10_draw_80 : decode cX10_draw 80 = .ok (.iload_n 3, 1) := by decide +kernel
theorem dX10_draw_81 : decode cX10_draw 81 = .ok (.ishr, 1) := by decide +kernel
theorem dX10_draw_82 : decode cX10_draw 82 = .ok (.iconst 1, 1) := by decide +kernel
theorem dX10_draw_83 : decode cX10_draw 83 = .ok (.iand, 1) := by decide +kernel
theorem dX10_draw_84 : decode cX10_draw 84 = .ok (.iconst 1, 1) := by decide +kernel
theorem dX10_draw_85 : decode cX10_draw 85 = .ok (.if_icmp .ne 7, 3) := by decide +kernel
theorem dX10_draw_88 : decode cX10_draw 88 = .ok (.iconst 0, 1) := by decide +kernel
theorem dX10_draw_89 : decode cX10_draw 89 = .ok (.goto 4, 3) := by decide +kernel
theorem dX10_draw_92 : decode cX10_draw 92 = .ok (.iconst 1, 1) := by decide +kernel
theorem dX10_draw_93 : decode cX10_draw 93 = .ok (.isub, 1) := by decide +kernel
theorem dX10_draw_94 : decode cX10_draw 94 = .ok (.istore_n 2, 1) := by decide +kernel
theorem dX10_draw_95 : decode cX10_draw 95 = .ok (.iinc 3 1, 3) := by decide +kernel
theorem dX10_draw_98 : decode cX10_draw 98 = .ok (.goto (-39), 3) := by decide +kernel
theorem dX10_draw_101 : decode cX10_draw 101 = .ok (.aload_n 0, 1) := by decide +kernel
theorem dX10_draw_102 : decode cX10_draw 102 = .ok (.dup, 1) := by decide +kernel
theorem dX10_draw_103 : decode cX10_draw 103 = .ok (.getfield 175, 3) := by decide +kernel
theorem dX10_draw_106 : decode cX10_draw 106 = .ok (.iconst 1, 1) := by decide +kernel
theorem dX10_draw_107 : decode cX10_draw 107 = .ok (.iload_n 3, 1) := by decide +kernel
theorem dX10_draw_108 : decode cX10_draw 108 = .ok (.ishl, 1) := by decide +kernel
theorem dX10_draw_109 : decode cX10_draw 109 = .ok (.ior, 1) := by decide +kernel
theorem dX10_draw_110 : decode cX10_draw 110 = .ok (.putfield 175, 3) := by decide +kernel
theorem dX10_draw_113 : decode cX10_draw 113 = .ok (.iload_n 3, 1) := by decide +kernel
theorem dX10_draw_114 : decode cX10_draw 114 = .ok (.ireturn, 1) := by decide +kernel
theorem dX10_count_0 : decode cX10_count 0 = .ok (.iload_n 1, 1) := by decide +kernel
theorem dX10_count_1 : decode cX10_count 1 = .ok (.tableswitch 77 0 5 #[39, 44, 49, 54, 67, 72], 39) := by decide +kernel
theorem dX10_count_40 : decode cX10_count 40 = .ok (.aload_n 0, 1) := by decide +kernel
theorem dX10_count_41 : decode cX10_count 41 = .ok (.getfield 68, 3) := by decide +kernel
theorem dX10_count_44 : decode cX10_count 44 = .ok (.ireturn, 1) := by decide +kernel
theorem dX10_count_45 : decode cX10_count 45 = .ok (.aload_n 0, 1) := by decide +kernel
theorem dX10_count_46 : decode cX10_count 46 = .ok (.getfield 94, 3) := by decide +kernel
theorem dX10_count_49 : decode cX10_count 49 = .ok (.ireturn, 1) := by decide +kernel
theorem dX10_count_50 : decode cX10_count 50 = .ok (.aload_n 0, 1) := by decide +kernel
theorem dX10_count_51 : decode cX10_count 51 = .ok (.getfield 158, 3) := by decide +kernel
theorem dX10_count_54 : decode cX10_count 54 = .ok (.ireturn, 1) := by decide +kernel
theorem dX10_count_55 : decode cX10_count 55 = .ok (.aload_n 0, 1) := by decide +kernel
theorem dX10_count_56 : decode cX10_count 56 = .ok (.getfield 76, 3) := by decide +kernel
theorem dX10_count_59 : decode cX10_count 59 = .ok (.ifCond .eq 7, 3) := by decide +kernel
theorem dX10_count_62 : decode cX10_count 62 = .ok (.iconst 1, 1) := by decide +kernel
theorem dX10_count_63 : decode cX10_count 63 = .ok (.goto 4, 3) := by decide +kernel
theorem dX10_count_66 : decode cX10_count 66 = .ok (.iconst 0, 1) := by decide +kernel
theorem dX10_count_67 : decode cX10_count 67 = .ok (.ireturn, 1) := by decide +kernel
theorem dX10_count_68 : decode cX10_count 68 = .ok (.aload_n 0, 1) := by decide +kernel
theorem dX10_count_69 : decode cX10_count 69 = .ok (.getfield 107, 3) := by decide +kernel
theorem dX10_count_72 : decode cX10_count 72 = .ok (.ireturn, 1) := by decide +kernel
theorem dX10_count_73 : decode cX10_count 73 = .ok (.aload_n 0, 1) := by decide +kernel
theorem dX10_count_74 : decode cX10_count 74 = .ok (.getfield 113, 3) := by decide +kernel
theorem dX10_count_77 : decode cX10_count 77 = .ok (.ireturn, 1) := by decide +kernel
theorem dX10_count_78 : decode cX10_count 78 = .ok (.iconst (-1), 1) := by decide +kernel
theorem dX10_count_79 : decode cX10_count 79 = .ok (.ireturn, 1) := by decide +kernel
theorem dJ6_lowestOneBit_0f7a4_0 : decode cJ6_lowestOneBit_0f7a4 0 = .ok (.iload_n 0, 1) := by decide +kernel
theorem dJ6_lowestOneBit_0f7a4_1 : decode cJ6_lowestOneBit_0f7a4 1 = .ok (.iload_n 0, 1) := by decide +kernel
theorem dJ6_lowestOneBit_0f7a4_2 : decode cJ6_lowestOneBit_0f7a4 2 = .ok (.ineg, 1) := by decide +kernel
theorem dJ6_lowestOneBit_0f7a4_3 : decode cJ6_lowestOneBit_0f7a4 3 = .ok (.iand, 1) := by decide +kernel
theorem dJ6_lowestOneBit_0f7a4_4 : decode cJ6_lowestOneBit_0f7a4 4 = .ok (.ireturn, 1) := by decide +kernel
theorem dJ6_bitCount_0f7a4_0 : decode cJ6_bitCount_0f7a4 0 = .ok (.iload_n 0, 1) := by decide +kernel
theorem dJ6_bitCount_0f7a4_1 : decode cJ6_bitCount_0f7a4 1 = .ok (.iload_n 0, 1) := by decide +kernel
theorem dJ6_bitCount_0f7a4_2 : decode cJ6_bitCount_0f7a4 2 = .ok (.iconst 1, 1) := by decide +kernel
theorem dJ6_bitCount_0f7a4_3 : decode cJ6_bitCount_0f7a4 3 = .ok (.iushr, 1) := by decide +kernel
theorem dJ6_bitCount_0f7a4_4 : decode cJ6_bitCount_0f7a4 4 = .ok (.ldc_w 265, 3) := by decide +kernel
theorem dJ6_bitCount_0f7a4_7 : decode cJ6_bitCount_0f7a4 7 = .ok (.iand, 1) := by decide +kernel
theorem dJ6_bitCount_0f7a4_8 : decode cJ6_bitCount_0f7a4 8 = .ok (.isub, 1) := by decide +kernel
theorem dJ6_bitCount_0f7a4_9 : decode cJ6_bitCount_0f7a4 9 = .ok (.istore_n 0, 1) := by decide +kernel
theorem dJ6_bitCount_0f7a4_10 : decode cJ6_bitCount_0f7a4 10 = .ok (.iload_n 0, 1) := by decide +kernel
theorem dJ6_bitCount_0f7a4_11 : decode cJ6_bitCount_0f7a4 11 = .ok (.ldc_w 266, 3) := by decide +kernel
theorem dJ6_bitCount_0f7a4_14 : decode cJ6_bitCount_0f7a4 14 = .ok (.iand, 1) := by decide +kernel
theorem dJ6_bitCount_0f7a4_15 : decode cJ6_bitCount_0f7a4 15 = .ok (.iload_n 0, 1) := by decide +kernel
theorem dJ6_bitCount_0f7a4_16 : decode cJ6_bitCount_0f7a4 16 = .ok (.iconst 2, 1) := by decide +kernel
theorem dJ6_bitCount_0f7a4_17 : decode cJ6_bitCount_0f7a4 17 = .ok (.iushr, 1) := by decide +kernel
theorem dJ6_bitCount_0f7a4_18 : decode cJ6_bitCount_0f7a4 18 = .ok (.ldc_w 266, 3) := by decide +kernel
theorem dJ6_bitCount_0f7a4_21 : decode cJ6_bitCount_0f7a4 21 = .ok (.iand, 1) := by decide +kernel
theorem dJ6_bitCount_0f7a4_22 : decode cJ6_bitCount_0f7a4 22 = .ok (.iadd, 1) := by decide +kernel
theorem dJ6_bitCount_0f7a4_23 : decode cJ6_bitCount_0f7a4 23 = .ok (.istore_n 0, 1) := by decide +kernel
theorem dJ6_bitCount_0f7a4_24 : decode cJ6_bitCount_0f7a4 24 = .ok (.iload_n 0, 1) := by decide +kernel
theorem dJ6_bitCount_0f7a4_25 : decode cJ6_bitCount_0f7a4 25 = .ok (.iload_n 0, 1) := by decide +kernel
theorem dJ6_bitCount_0f7a4_26 : decode cJ6_bitCount_0f7a4 26 = .ok (.iconst 4, 1) := by decide +kernel
theorem dJ6_bitCount_0f7a4_27 : decode cJ6_bitCount_0f7a4 27 = .ok (.iushr, 1) := by decide +kernel
theorem dJ6_bitCount_0f7a4_28 : decode cJ6_bitCount_0f7a4 28 = .ok (.iadd, 1) := by decide +kernel
theorem dJ6_bitCount_0f7a4_29 : decode cJ6_bitCount_0f7a4 29 = .ok (.ldc_w 267, 3) := by decide +kernel
theorem dJ6_bitCount_0f7a4_32 : decode cJ6_bitCount_0f7a4 32 = .ok (.iand, 1) := by decide +kernel
theorem dJ6_bitCount_0f7a4_33 : decode cJ6_bitCount_0f7a4 33 = .ok (.istore_n 0, 1) := by decide +kernel
theorem dJ6_bitCount_0f7a4_34 : decode cJ6_bitCount_0f7a4 34 = .ok (.iload_n 0, 1) := by decide +kernel
theorem dJ6_bitCount_0f7a4_35 : decode cJ6_bitCount_0f7a4 35 = .ok (.iload_n 0, 1) := by decide +kernel
theorem dJ6_bitCount_0f7a4_36 : decode cJ6_bitCount_0f7a4 36 = .ok (.bipush 8, 2) := by decide +kernel
theorem dJ6_bitCount_0f7a4_38 : decode cJ6_bitCount_0f7a4 38 = .ok (.iushr, 1) := by decide +kernel
theorem dJ6_bitCount_0f7a4_39 : decode cJ6_bitCount_0f7a4 39 = .ok (.iadd, 1) := by decide +kernel
theorem dJ6_bitCount_0f7a4_40 : decode cJ6_bitCount_0f7a4 40 = .ok (.istore_n 0, 1) := by decide +kernel
theorem dJ6_bitCount_0f7a4_41 : decode cJ6_bitCount_0f7a4 41 = .ok (.iload_n 0, 1) := by decide +kernel
theorem dJ6_bitCount_0f7a4_42 : decode cJ6_bitCount_0f7a4 42 = .ok (.iload_n 0, 1) := by decide +kernel
theorem dJ6_bitCount_0f7a4_43 : decode cJ6_bitCount_0f7a4 43 = .ok (.bipush 16, 2) := by decide +kernel
theorem dJ6_bitCount_0f7a4_45 : decode cJ6_bitCount_0f7a4 45 = .ok (.iushr, 1) := by decide +kernel
theorem dJ6_bitCount_0f7a4_46 : decode cJ6_bitCount_0f7a4 46 = .ok (.iadd, 1) := by decide +kernel
theorem dJ6_bitCount_0f7a4_47 : decode cJ6_bitCount_0f7a4 47 = .ok (.istore_n 0, 1) := by decide +kernel
theorem dJ6_bitCount_0f7a4_48 : decode cJ6_bitCount_0f7a4 48 = .ok (.iload_n 0, 1) := by decide +kernel
theorem dJ6_bitCount_0f7a4_49 : decode cJ6_bitCount_0f7a4 49 = .ok (.bipush 63, 2) := by decide +kernel
theorem dJ6_bitCount_0f7a4_51 : decode cJ6_bitCount_0f7a4 51 = .ok (.iand, 1) := by decide +kernel
theorem dJ6_bitCount_0f7a4_52 : decode cJ6_bitCount_0f7a4 52 = .ok (.ireturn, 1) := by decide +kernel
theorem dJ9_abs_0f7a4_0 : decode cJ9_abs_0f7a4 0 = .ok (.iload_n 0, 1) := by decide +kernel
theorem dJ9_abs_0f7a4_1 : decode cJ9_abs_0f7a4 1 = .ok (.ifCond .ge 8, 3) := by decide +kernel
theorem dJ9_abs_0f7a4_4 : decode cJ9_abs_0f7a4 4 = .ok (.iload_n 0, 1) := by decide +kernel
theorem dJ9_abs_0f7a4_5 : decode cJ9_abs_0f7a4 5 = .ok (.ineg, 1) := by decide +kernel
theorem dJ9_abs_0f7a4_6 : decode cJ9_abs_0f7a4 6 = .ok (.goto 4, 3) := by decide +kernel
theorem dJ9_abs_0f7a4_9 : decode cJ9_abs_0f7a4 9 = .ok (.iload_n 0, 1) := by decide +kernel
theorem dJ9_abs_0f7a4_10 : decode cJ9_abs_0f7a4 10 = .ok (.ireturn, 1) := by decide +kernel
theorem dJ9_max_7cf53_0 : decode cJ9_max_7cf53 0 = .ok (.iload_n 0, 1) := by decide +kernel
theorem dJ9_max_7cf53_1 : decode cJ9_max_7cf53 1 = .ok (.iload_n 1, 1) := by decide +kernel
theorem dJ9_max_7cf53_2 : decode cJ9_max_7cf53 2 = .ok (.if_icmp .lt 7, 3) := by decide +kernel
theorem dJ9_max_7cf53_5 : decode cJ9_max_7cf53 5 = .ok (.iload_n 0, 1) := by decide +kernel
theorem dJ9_max_7cf53_6 : decode cJ9_max_7cf53 6 = .ok (.goto 4, 3) := by decide +kernel
theorem dJ9_max_7cf53_9 : decode cJ9_max_7cf53 9 = .ok (.iload_n 1, 1) := by decide +kernel
theorem dJ9_max_7cf53_10 : decode cJ9_max_7cf53 10 = .ok (.ireturn, 1) := by decide +kernel
theorem dJ9_min_7cf53_0 : decode cJ9_min_7cf53 0 = .ok (.iload_n 0, 1) := by decide +kernel
theorem dJ9_min_7cf53_1 : decode cJ9_min_7cf53 1 = .ok (.iload_n 1, 1) := by decide +kernel
theorem dJ9_min_7cf53_2 : decode cJ9_min_7cf53 2 = .ok (.if_icmp .gt 7, 3) := by decide +kernel
theorem dJ9_min_7cf53_5 : decode cJ9_min_7cf53 5 = .ok (.iload_n 0, 1) := by decide +kernel
theorem dJ9_min_7cf53_6 : decode cJ9_min_7cf53 6 = .ok (.goto 4, 3) := by decide +kernel
theorem dJ9_min_7cf53_9 : decode cJ9_min_7cf53 9 = .ok (.iload_n 1, 1) := by decide +kernel
theorem dJ9_min_7cf53_10 : decode cJ9_min_7cf53 10 = .ok (.ireturn, 1) := by decide +kernel
theorem dL_law_0 : decode cL_law 0 = .ok (.new 7, 3) := by decide +kernel
theorem dL_law_3 : decode cL_law 3 = .ok (.dup, 1) := by decide +kernel
theorem dL_law_4 : decode cL_law 4 = .ok (.invokespecial 9, 3) := by decide +kernel
theorem dL_law_7 : decode cL_law 7 = .ok (.astore_n 1, 1) := by decide +kernel
theorem dL_law_8 : decode cL_law 8 = .ok (.new 10, 3) := by decide +kernel
theorem dL_law_11 : decode cL_law 11 = .ok (.dup, 1) := by decide +kernel
theorem dL_law_12 : decode cL_law 12 = .ok (.invokespecial 12, 3) := by decide +kernel
theorem dL_law_15 : decode cL_law 15 = .ok (.astore_n 2, 1) := by decide +kernel
theorem dL_law_16 : decode cL_law 16 = .ok (.iconst 0, 1) := by decide +kernel
theorem dL_law_17 : decode cL_law 17 = .ok (.istore_n 3, 1) := by decide +kernel
theorem dL_law_18 : decode cL_law 18 = .ok (.iload_n 3, 1) := by decide +kernel
theorem dL_law_19 : decode cL_law 19 = .ok (.aload_n 0, 1) := by decide +kernel
theorem dL_law_20 : decode cL_law 20 = .ok (.arraylength, 1) := by decide +kernel
theorem dL_law_21 : decode cL_law 21 = .ok (.iconst 5, 1) := by decide +kernel
theorem dL_law_22 : decode cL_law 22 = .ok (.isub, 1) := by decide +kernel
theorem dL_law_23 : decode cL_law 23 = .ok (.if_icmp .gt 651, 3) := by decide +kernel
theorem dL_law_26 : decode cL_law 26 = .ok (.aload_n 0, 1) := by decide +kernel
theorem dL_law_27 : decode cL_law 27 = .ok (.iload_n 3, 1) := by decide +kernel
theorem dL_law_28 : decode cL_law 28 = .ok (.iaload, 1) := by decide +kernel
theorem dL_law_29 : decode cL_law 29 = .ok (.bipush 31, 2) := by decide +kernel
theorem dL_law_31 : decode cL_law 31 = .ok (.iand, 1) := by decide +kernel
theorem dL_law_32 : decode cL_law 32 = .ok (.tableswitch 636 0 19 #[96, 109, 162, 195, 238, 271, 294, 337, 370, 383, 406, 429, 452, 475, 508, 531, 564, 577, 600, 613], 96) := by decide +kernel
theorem dL_law_128 : decode cL_law 128 = .ok (.aload_n 1, 1) := by decide +kernel
theorem dL_law_129 : decode cL_law 129 = .ok (.invokevirtual 13, 3) := by decide +kernel
theorem dL_law_132 : decode cL_law 132 = .ok (.aload_n 2, 1) := by decide +kernel
theorem dL_law_133 : decode cL_law 133 = .ok (.invokevirtual 17, 3) := by decide +kernel
theorem dL_law_136 : decode cL_law 136 = .ok (.if_icmp .eq 532, 3) := by decide +kernel
theorem dL_law_139 : decode cL_law 139 = .ok (.iconst 0, 1) := by decide +kernel
theorem dL_law_140 : decode cL_law 140 = .ok (.ireturn, 1) := by decide +kernel
theorem dL_law_141 : decode cL_law 141 = .ok (.aload_n 1, 1) := by decide +kernel
theorem dL_law_142 : decode cL_law 142 = .ok (.aload_n 0, 1) := by decide +kernel
theorem dL_law_143 : decode cL_law 143 = .ok (.iload_n 3, 1) := by decide +kernel
theorem dL_law_144 : decode cL_law 144 = .ok (.iconst 1, 1) := by decide +kernel
theorem dL_law_145 : decode cL_law 145 = .ok (.iadd, 1) := by decide +kernel
theorem dL_law_146 : decode cL_law 146 = .ok (.iaload, 1) := by decide +kernel
theorem dL_law_147 : decode cL_law 147 = .ok (.aload_n 0, 1) := by decide +kernel
theorem dL_law_148 : decode cL_law 148 = .ok (.iload_n 3, 1) := by decide +kernel
theorem dL_law_149 : decode cL_law 149 = .ok (.iconst 2, 1) := by decide +kernel
theorem dL_law_150 : decode cL_law 150 = .ok (.iadd, 1) := by decide +kernel
theorem dL_law_151 : decode cL_law 151 = .ok (.iaload, 1) := by decide +kernel
theorem dL_law_152 : decode cL_law 152 = .ok (.aload_n 0, 1) := by decide +kernel
theorem dL_law_153 : decode cL_law 153 = .ok (.iload_n 3, 1) := by decide +kernel
theorem dL_law_154 : decode cL_law 154 = .ok (.iconst 3, 1) := by decide +kernel
theorem dL_law_155 : decode cL_law 155 = .ok (.iadd, 1) := by decide +kernel
theorem dL_law_156 : decode cL_law 156 = .ok (.iaload, 1) := by decide +kernel
theorem dL_law_157 : decode cL_law 157 = .ok (.aload_n 0, 1) := by decide +kernel
theorem dL_law_158 : decode cL_law 158 = .ok (.iload_n 3, 1) := by decide +kernel
theorem dL_law_159 : decode cL_law 159 = .ok (.iconst 4, 1) := by decide +kernel
theorem dL_law_160 : decode cL_law 160 = .ok (.iadd, 1) := by decide +kernel
theorem dL_law_161 : decode cL_law 161 = .ok (.iaload, 1) := by decide +kernel
theorem dL_law_162 : decode cL_law 162 = .ok (.invokevirtual 18, 3) := by decide +kernel
theorem dL_law_165 : decode cL_law 165 = .ok (.aload_n 2, 1) := by decide +kernel
theorem dL_law_166 : decode cL_law 166 = .ok (.aload_n 0, 1) := by decide +kernel
theorem dL_law_167 : decode cL_law 167 = .ok (.iload_n 3, 1) := by decide +kernel
theorem dL_law_168 : decode cL_law 168 = .ok (.iconst 1, 1) := by decide +kernel
theorem dL_law_169 : decode cL_law 169 = .ok (.iadd, 1) := by decide +kernel
theorem dL_law_170 : decode cL_law 170 = .ok (.iaload, 1) := by decide +kernel
theorem dL_law_171 : decode cL_law 171 = .ok (.aload_n 0, 1) := by decide +kernel
theorem dL_law_172 : decode cL_law 172 = .ok (.iload_n 3, 1) := by decide +kernel
theorem dL_law_173 : decode cL_law 173 = .ok (.iconst 2, 1) := by decide +kernel
theorem dL_law_174 : decode cL_law 174 = .ok (.iadd, 1) := by decide +kernel
theorem dL_law_175 : decode cL_law 175 = .ok (.iaload, 1) := by decide +kernel
theorem dL_law_176 : decode cL_law 176 = .ok (.aload_n 0, 1) := by decide +kernel
theorem dL_law_177 : decode cL_law 177 = .ok (.iload_n 3, 1) := by decide +kernel
theorem dL_law_178 : decode cL_law 178 = .ok (.iconst 3, 1) := by decide +kernel
theorem dL_law_179 : decode cL_law 179 = .ok (.iadd, 1) := by decide +kernel
theorem dL_law_180 : decode cL_law 180 = .ok (.iaload, 1) := by decide +kernel
theorem dL_law_181 : decode cL_law 181 = .ok (.aload_n 0, 1) := by decide +kernel
theorem dL_law_182 : decode cL_law 182 = .ok (.iload_n 3, 1) := by decide +kernel
theorem dL_law_183 : decode cL_law 183 = .ok (.iconst 4, 1) := by decide +kernel
theorem dL_law_184 : decode cL_law 184 = .ok (.iadd, 1) := by decide +kernel
theorem dL_law_185 : decode cL_law 185 = .ok (.iaload, 1) := by decide +kernel
theorem dL_law_186 : decode cL_law 186 = .ok (.invokevirtual 22, 3) := by decide +kernel
theorem dL_law_189 : decode cL_law 189 = .ok (.if_icmp .eq 479, 3) := by decide +kernel
theorem dL_law_192 : decode cL_law 192 = .ok (.iconst 0, 1) := by decide +kernel
theorem dL_law_193 : decode cL_law 193 = .ok (.ireturn, 1) := by decide +kernel
theorem dL_law_194 : decode cL_law 194 = .ok (.aload_n 1, 1) := by decide +kernel
theorem dL_law_195 : decode cL_law 195 = .ok (.aload_n 0, 1) := by decide +kernel
theorem dL_law_196 : decode cL_law 196 = .ok (.iload_n 3, 1) := by decide +kernel
theorem dL_law_197 : decode cL_law 197 = .ok (.iconst 1, 1) := by decide +kernel
theorem dL_law_198 : decode cL_law 198 = .ok (.iadd, 1) := by decide +kernel
theorem dL_law_199 : decode cL_law 199 = .ok (.iaload, 1) := by decide +kernel
theorem dL_law_200 : decode cL_law 200 = .ok (.aload_n 0, 1) := by decide +kernel
theorem dL_law_201 : decode cL_law 201 = .ok (.iload_n 3, 1) := by decide +kernel
theorem dL_law_202 : decode cL_law 202 = .ok (.iconst 2, 1) := by decide +kernel
theorem dL_law_203 : decode cL_law 203 = .ok (.iadd, 1) := by decide +kernel
theorem dL_law_204 : decode cL_law 204 = .ok (.iaload, 1) := by decide +kernel
theorem dL_law_205 : decode cL_law 205 = .ok (.invokevirtual 23, 3) := by decide +kernel
theorem dL_law_208 : decode cL_law 208 = .ok (.aload_n 2, 1) := by decide +kernel
theorem dL_law_209 : decode cL_law 209 = .ok (.aload_n 0, 1) := by decide +kernel
theorem dL_law_210 : decode cL_law 210 = .ok (.iload_n 3, 1) := by decide +kernel
theorem dL_law_211 : decode cL_law 211 = .ok (.iconst 1, 1) := by decide +kernel
theorem dL_law_212 : decode cL_law 212 = .ok (.iadd, 1) := by decide +kernel
theorem dL_law_213 : decode cL_law 213 = .ok (.iaload, 1) := by decide +kernel
theorem dL_law_214 : decode cL_law 214 = .ok (.aload_n 0, 1) := by decide +kernel
theorem dL_law_215 : decode cL_law 215 = .ok (.iload_n 3, 1) := by decide +kernel
theorem dL_law_216 : decode cL_law 216 = .ok (.iconst 2, 1) := by decide +kernel
theorem dL_law_217 : decode cL_law 217 = .ok (.iadd, 1) := by decide +kernel
theorem dL_law_218 : decode cL_law 218 = .ok (.iaload, 1) := by decide +kernel
theorem dL_law_219 : decode cL_law 219 = .ok (.invokevirtual 27, 3) := by decide +kernel
theorem dL_law_222 : decode cL_law 222 = .ok (.if_icmp .eq 446, 3) := by decide +kernel
theorem dL_law_225 : decode cL_law 225 = .ok (.iconst 0, 1) := by decide +kernel
theorem dL_law_226 : decode cL_law 226 = .ok (.ireturn, 1) := by decide +kernel
theorem dL_law_227 : decode cL_law 227 = .ok (.aload_n 1, 1) := by decide +kernel
theorem dL_law_228 : decode cL_law 228 = .ok (.aload_n 0, 1) := by decide +kernel
theorem dL_law_229 : decode cL_law 229 = .ok (.iload_n 3, 1) := by decide +kernel
theorem dL_law_230 : decode cL_law 230 = .ok (.iconst 1, 1) := by decide +kernel
theorem dL_law_231 : decode cL_law 231 = .ok (.iadd, 1) := by decide +kernel
theorem dL_law_232 : decode cL_law 232 = .ok (.iaload, 1) := by decide +kernel
theorem dL_law_233 : decode cL_law 233 = .ok (.aload_n 0, 1) := by decide +kernel
theorem dL_law_234 : decode cL_law 234 = .ok (.iload_n 3, 1) := by decide +kernel
theorem dL_law_235 : decode cL_law 235 = .ok (.iconst 2, 1) := by decide +kernel
theorem dL_law_236 : decode cL_law 236 = .ok (.iadd, 1) := by decide +kernel
theorem dL_law_237 : decode cL_law 237 = .ok (.iaload, 1) := by decide +kernel
theorem dL_law_238 : decode cL_law 238 = .ok (.aload_n 0, 1) := by decide +kernel
theorem dL_law_239 : decode cL_law 239 = .ok (.iload_n 3, 1) := by decide +kernel
theorem dL_law_240 : decode cL_law 240 = .ok (.iconst 3, 1) := by decide +kernel
theorem dL_law_241 : decode cL_law 241 = .ok (.iadd, 1) := by decide +kernel
theorem dL_law_242 : decode cL_law 242 = .ok (.iaload, 1) := by decide +kernel
theorem dL_law_243 : decode cL_law 243 = .ok (.invokevirtual 28, 3) := by decide +kernel
theorem dL_law_246 : decode cL_law 246 = .ok (.aload_n 2, 1) := by decide +kernel
theorem dL_law_247 : decode cL_law 247 = .ok (.aload_n 0, 1) := by decide +kernel
theorem dL_law_248 : decode cL_law 248 = .ok (.iload_n 3, 1) := by decide +kernel
theorem dL_law_249 : decode cL_law 249 = .ok (.iconst 1, 1) := by decide +kernel
theorem dL_law_250 : decode cL_law 250 = .ok (.iadd, 1) := by decide +kernel
theorem dL_law_251 : decode cL_law 251 = .ok (.iaload, 1) := by decide +kernel
theorem dL_law_252 : decode cL_law 252 = .ok (.aload_n 0, 1) := by decide +kernel
theorem dL_law_253 : decode cL_law 253 = .ok (.iload_n 3, 1) := by decide +kernel
theorem dL_law_254 : decode cL_law 254 = .ok (.iconst 2, 1) := by decide +kernel
theorem dL_law_255 : decode cL_law 255 = .ok (.iadd, 1) := by decide +kernel
theorem dL_law_256 : decode cL_law 256 = .ok (.iaload, 1) := by decide +kernel
theorem dL_law_257 : decode cL_law 257 = .ok (.aload_n 0, 1) := by decide +kernel
theorem dL_law_258 : decode cL_law 258 = .ok (.iload_n 3, 1) := by decide +kernel
theorem dL_law_259 : decode cL_law 259 = .ok (.iconst 3, 1) := by decide +kernel
theorem dL_law_260 : decode cL_law 260 = .ok (.iadd, 1) := by decide +kernel
theorem dL_law_261 : decode cL_law 261 = .ok (.iaload, 1) := by decide +kernel
theorem dL_law_262 : decode cL_law 262 = .ok (.invokevirtual 32, 3) := by decide +kernel
theorem dL_law_265 : decode cL_law 265 = .ok (.if_icmp .eq 403, 3) := by decide +kernel
theorem dL_law_268 : decode cL_law 268 = .ok (.iconst 0, 1) := by decide +kernel
theorem dL_law_269 : decode cL_law 269 = .ok (.ireturn, 1) := by decide +kernel
theorem dL_law_270 : decode cL_law 270 = .ok (.aload_n 1, 1) := by decide +kernel
theorem dL_law_271 : decode cL_law 271 = .ok (.aload_n 0, 1) := by decide +kernel
theorem dL_law_272 : decode cL_law 272 = .ok (.iload_n 3, 1) := by decide +kernel
theorem dL_law_273 : decode cL_law 273 = .ok (.iconst 1, 1) := by decide +kernel
theorem dL_law_274 : decode cL_law 274 = .ok (.iadd, 1) := by decide +kernel
theorem dL_law_275 : decode cL_law 275 = .ok (.iaload, 1) := by decide +kernel
theorem dL_law_276 : decode cL_law 276 = .ok (.aload_n 0, 1) := by decide +kernel
theorem dL_law_277 : decode cL_law 277 = .ok (.iload_n 3, 1) := by decide +kernel
theorem dL_law_278 : decode cL_law 278 = .ok (.iconst 2, 1) := by decide +kernel
theorem dL_law_279 : decode cL_law 279 = .ok (.iadd, 1) := by decide +kernel
theorem dL_law_280 : decode cL_law 280 = .ok (.iaload, 1) := by decide +kernel
theorem dL_law_281 : decode cL_law 281 = .ok (.invokevirtual 33, 3) := by decide +kernel
theorem dL_law_284 : decode cL_law 284 = .ok (.aload_n 2, 1) := by decide +kernel
theorem dL_law_285 : decode cL_law 285 = .ok (.aload_n 0, 1) := by decide +kernel
theorem dL_law_286 : decode cL_law 286 = .ok (.iload_n 3, 1) := by decide +kernel
theorem dL_law_287 : decode cL_law 287 = .ok (.iconst 1, 1) := by decide +kernel
theorem dL_law_288 : decode cL_law 288 = .ok (.iadd, 1) := by decide +kernel
theorem dL_law_289 : decode cL_law 289 = .ok (.iaload, 1) := by decide +kernel
theorem dL_law_290 : decode cL_law 290 = .ok (.aload_n 0, 1) := by decide +kernel
theorem dL_law_291 : decode cL_law 291 = .ok (.iload_n 3, 1) := by decide +kernel
theorem dL_law_292 : decode cL_law 292 = .ok (.iconst 2, 1) := by decide +kernel
theorem dL_law_293 : decode cL_law 293 = .ok (.iadd, 1) := by decide +kernel
theorem dL_law_294 : decode cL_law 294 = .ok (.iaload, 1) := by decide +kernel
theorem dL_law_295 : decode cL_law 295 = .ok (.invokevirtual 36, 3) := by decide +kernel
theorem dL_law_298 : decode cL_law 298 = .ok (.if_icmp .eq 370, 3) := by decide +kernel
theorem dL_law_301 : decode cL_law 301 = .ok (.iconst 0, 1) := by decide +kernel
theorem dL_law_302 : decode cL_law 302 = .ok (.ireturn, 1) := by decide +kernel
theorem dL_law_303 : decode cL_law 303 = .ok (.aload_n 1, 1) := by decide +kernel
theorem dL_law_304 : decode cL_law 304 = .ok (.aload_n 0, 1) := by decide +kernel
theorem dL_law_305 : decode cL_law 305 = .ok (.iload_n 3, 1) := by decide +kernel
theorem dL_law_306 : decode cL_law 306 = .ok (.iconst 1, 1) := by decide +kernel
theorem dL_law_307 : decode cL_law 307 = .ok (.iadd, 1) := by decide +kernel
theorem dL_law_308 : decode cL_law 308 = .ok (.iaload, 1) := by decide +kernel
theorem dL_law_309 : decode cL_law 309 = .ok (.invokevirtual 37, 3) := by decide +kernel
theorem dL_law_312 : decode cL_law 312 = .ok (.aload_n 2, 1) := by decide +kernel
theorem dL_law_313 : decode cL_law 313 = .ok (.aload_n 0, 1) := by decide +kernel
theorem dL_law_314 : decode cL_law 314 = .ok (.iload_n 3, 1) := by decide +kernel
theorem dL_law_315 : decode cL_law 315 = .ok (.iconst 1, 1) := by decide +kernel
theorem dL_law_316 : decode cL_law 316 = .ok (.iadd, 1) := by decide +kernel
theorem dL_law_317 : decode cL_law 317 = .ok (.iaload, 1) := by decide +kernel
theorem dL_law_318 : decode cL_law 318 = .ok (.invokevirtual 41, 3) := by decide +kernel
theorem dL_law_321 : decode cL_law 321 = .ok (.if_icmp .eq 347, 3) := by decide +kernel
theorem dL_law_324 : decode cL_law 324 = .ok (.iconst 0, 1) := by decide +kernel
theorem dL_law_325 : decode cL_law 325 = .ok (.ireturn, 1) := by decide +kernel
theorem dL_law_326 : decode cL_law 326 = .ok (.aload_n 1, 1) := by decide +kernel
theorem dL_law_327 : decode cL_law 327 = .ok (.aload_n 0, 1) := by decide +kernel
theorem dL_law_328 : decode cL_law 328 = .ok (.iload_n 3, 1) := by decide +kernel
theorem dL_law_329 : decode cL_law 329 = .ok (.iconst 1, 1) := by decide +kernel
theorem dL_law_330 : decode cL_law 330 = .ok (.iadd, 1) := by decide +kernel
theorem dL_law_331 : decode cL_law 331 = .ok (.iaload, 1) := by decide +kernel
theorem dL_law_332 : decode cL_law 332 = .ok (.aload_n 0, 1) := by decide +kernel
theorem dL_law_333 : decode cL_law 333 = .ok (.iload_n 3, 1) := by decide +kernel
theorem dL_law_334 : decode cL_law 334 = .ok (.iconst 2, 1) := by decide +kernel
theorem dL_law_335 : decode cL_law 335 = .ok (.iadd, 1) := by decide +kernel
theorem dL_law_336 : decode cL_law 336 = .ok (.iaload, 1) := by decide +kernel
theorem dL_law_337 : decode cL_law 337 = .ok (.aload_n 0, 1) := by decide +kernel
theorem dL_law_338 : decode cL_law 338 = .ok (.iload_n 3, 1) := by decide +kernel
theorem dL_law_339 : decode cL_law 339 = .ok (.iconst 3, 1) := by decide +kernel
theorem dL_law_340 : decode cL_law 340 = .ok (.iadd, 1) := by decide +kernel
theorem dL_law_341 : decode cL_law 341 = .ok (.iaload, 1) := by decide +kernel
theorem dL_law_342 : decode cL_law 342 = .ok (.invokevirtual 42, 3) := by decide +kernel
theorem dL_law_345 : decode cL_law 345 = .ok (.aload_n 2, 1) := by decide +kernel
theorem dL_law_346 : decode cL_law 346 = .ok (.aload_n 0, 1) := by decide +kernel
theorem dL_law_347 : decode cL_law 347 = .ok (.iload_n 3, 1) := by decide +kernel
theorem dL_law_348 : decode cL_law 348 = .ok (.iconst 1, 1) := by decide +kernel
theorem dL_law_349 : decode cL_law 349 = .ok (.iadd, 1) := by decide +kernel
theorem dL_law_350 : decode cL_law 350 = .ok (.iaload, 1) := by decide +kernel
theorem dL_law_351 : decode cL_law 351 = .ok (.aload_n 0, 1) := by decide +kernel
theorem dL_law_352 : decode cL_law 352 = .ok (.iload_n 3, 1) := by decide +kernel
theorem dL_law_353 : decode cL_law 353 = .ok (.iconst 2, 1) := by decide +kernel
theorem dL_law_354 : decode cL_law 354 = .ok (.iadd, 1) := by decide +kernel
theorem dL_law_355 : decode cL_law 355 = .ok (.iaload, 1) := by decide +kernel
theorem dL_law_356 : decode cL_law 356 = .ok (.aload_n 0, 1) := by decide +kernel
theorem dL_law_357 : decode cL_law 357 = .ok (.iload_n 3, 1) := by decide +kernel
theorem dL_law_358 : decode cL_law 358 = .ok (.iconst 3, 1) := by decide +kernel
theorem dL_law_359 : decode cL_law 359 = .ok (.iadd, 1) := by decide +kernel
theorem dL_law_360 : decode cL_law 360 = .ok (.iaload, 1) := by decide +kernel
theorem dL_law_361 : decode cL_law 361 = .ok (.invokevirtual 45, 3) := by decide +kernel
theorem dL_law_364 : decode cL_law 364 = .ok (.if_icmp .eq 304, 3) := by decide +kernel
theorem dL_law_367 : decode cL_law 367 = .ok (.iconst 0, 1) := by decide +kernel
theorem dL_law_368 : decode cL_law 368 = .ok (.ireturn, 1) := by decide +kernel
theorem dL_law_369 : decode cL_law 369 = .ok (.aload_n 1, 1) := by decide +kernel
theorem dL_law_370 : decode cL_law 370 = .ok (.aload_n 0, 1) := by decide +kernel
theorem dL_law_371 : decode cL_law 371 = .ok (.iload_n 3, 1) := by decide +kernel
theorem dL_law_372 : decode cL_law 372 = .ok (.iconst 1, 1) := by decide +kernel
theorem dL_law_373 : decode cL_law 373 = .ok (.iadd, 1) := by decide +kernel
theorem dL_law_374 : decode cL_law 374 = .ok (.iaload, 1) := by decide +kernel
theorem dL_law_375 : decode cL_law 375 = .ok (.aload_n 0, 1) := by decide +kernel
theorem dL_law_376 : decode cL_law 376 = .ok (.iload_n 3, 1) := by decide +kernel
theorem dL_law_377 : decode cL_law 377 = .ok (.iconst 2, 1) := by decide +kernel
theorem dL_law_378 : decode cL_law 378 = .ok (.iadd, 1) := by decide +kernel
theorem dL_law_379 : decode cL_law 379 = .ok (.iaload, 1) := by decide +kernel
theorem dL_law_380 : decode cL_law 380 = .ok (.invokevirtual 46, 3) := by decide +kernel
theorem dL_law_383 : decode cL_law 383 = .ok (.aload_n 2, 1) := by decide +kernel
theorem dL_law_384 : decode cL_law 384 = .ok (.aload_n 0, 1) := by decide +kernel
theorem dL_law_385 : decode cL_law 385 = .ok (.iload_n 3, 1) := by decide +kernel
theorem dL_law_386 : decode cL_law 386 = .ok (.iconst 1, 1) := by decide +kernel
theorem dL_law_387 : decode cL_law 387 = .ok (.iadd, 1) := by decide +kernel
theorem dL_law_388 : decode cL_law 388 = .ok (.iaload, 1) := by decide +kernel
theorem dL_law_389 : decode cL_law 389 = .ok (.aload_n 0, 1) := by decide +kernel
theorem dL_law_390 : decode cL_law 390 = .ok (.iload_n 3, 1) := by decide +kernel
theorem dL_law_391 : decode cL_law 391 = .ok (.iconst 2, 1) := by decide +kernel
theorem dL_law_392 : decode cL_law 392 = .ok (.iadd, 1) := by decide +kernel
theorem dL_law_393 : decode cL_law 393 = .ok (.iaload, 1) := by decide +kernel
theorem dL_law_394 : decode cL_law 394 = .ok (.invokevirtual 49, 3) := by decide +kernel
theorem dL_law_397 : decode cL_law 397 = .ok (.if_icmp .eq 271, 3) := by decide +kernel
theorem dL_law_400 : decode cL_law 400 = .ok (.iconst 0, 1) := by decide +kernel
theorem dL_law_401 : decode cL_law 401 = .ok (.ireturn, 1) := by decide +kernel
theorem dL_law_402 : decode cL_law 402 = .ok (.aload_n 1, 1) := by decide +kernel
theorem dL_law_403 : decode cL_law 403 = .ok (.invokevirtual 50, 3) := by decide +kernel
theorem dL_law_406 : decode cL_law 406 = .ok (.aload_n 2, 1) := by decide +kernel
theorem dL_law_407 : decode cL_law 407 = .ok (.invokevirtual 53, 3) := by decide +kernel
theorem dL_law_410 : decode cL_law 410 = .ok (.if_icmp .eq 258, 3) := by decide +kernel
theorem dL_law_413 : decode cL_law 413 = .ok (.iconst 0, 1) := by decide +kernel
theorem dL_law_414 : decode cL_law 414 = .ok (.ireturn, 1) := by decide +kernel
theorem dL_law_415 : decode cL_law 415 = .ok (.aload_n 1, 1) := by decide +kernel
theorem dL_law_416 : decode cL_law 416 = .ok (.aload_n 0, 1) := by decide +kernel
theorem dL_law_417 : decode cL_law 417 = .ok (.iload_n 3, 1) := by decide +kernel
theorem dL_law_418 : decode cL_law 418 = .ok (.iconst 1, 1) := by decide +kernel
theorem dL_law_419 : decode cL_law 419 = .ok (.iadd, 1) := by decide +kernel
theorem dL_law_420 : decode cL_law 420 = .ok (.iaload, 1) := by decide +kernel
theorem dL_law_421 : decode cL_law 421 = .ok (.invokevirtual 54, 3) := by decide +kernel
theorem dL_law_424 : decode cL_law 424 = .ok (.aload_n 2, 1) := by decide +kernel
theorem dL_law_425 : decode cL_law 425 = .ok (.aload_n 0, 1) := by decide +kernel
theorem dL_law_426 : decode cL_law 426 = .ok (.iload_n 3, 1) := by decide +kernel
theorem dL_law_427 : decode cL_law 427 = .ok (.iconst 1, 1) := by decide +kernel
theorem dL_law_428 : decode cL_law 428 = .ok (.iadd, 1) := by decide +kernel
theorem dL_law_429 : decode cL_law 429 = .ok (.iaload, 1) := by decide +kernel
theorem dL_law_430 : decode cL_law 430 = .ok (.invokevirtual 57, 3) := by decide +kernel
theorem dL_law_433 : decode cL_law 433 = .ok (.if_icmp .eq 235, 3) := by decide +kernel
theorem dL_law_436 : decode cL_law 436 = .ok (.iconst 0, 1) := by decide +kernel
theorem dL_law_437 : decode cL_law 437 = .ok (.ireturn, 1) := by decide +kernel
theorem dL_law_438 : decode cL_law 438 = .ok (.aload_n 1, 1) := by decide +kernel
theorem dL_law_439 : decode cL_law 439 = .ok (.aload_n 0, 1) := by decide +kernel
theorem dL_law_440 : decode cL_law 440 = .ok (.iload_n 3, 1) := by decide +kernel
theorem dL_law_441 : decode cL_law 441 = .ok (.iconst 1, 1) := by decide +kernel
theorem dL_law_442 : decode cL_law 442 = .ok (.iadd, 1) := by decide +kernel
theorem dL_law_443 : decode cL_law 443 = .ok (.iaload, 1) := by decide +kernel
theorem dL_law_444 : decode cL_law 444 = .ok (.invokevirtual 58, 3) := by decide +kernel
theorem dL_law_447 : decode cL_law 447 = .ok (.aload_n 2, 1) := by decide +kernel
theorem dL_law_448 : decode cL_law 448 = .ok (.aload_n 0, 1) := by decide +kernel
theorem dL_law_449 : decode cL_law 449 = .ok (.iload_n 3, 1) := by decide +kernel
theorem dL_law_450 : decode cL_law 450 = .ok (.iconst 1, 1) := by decide +kernel
theorem dL_law_451 : decode cL_law 451 = .ok (.iadd, 1) := by decide +kernel
theorem dL_law_452 : decode cL_law 452 = .ok (.iaload, 1) := by decide +kernel
theorem dL_law_453 : decode cL_law 453 = .ok (.invokevirtual 61, 3) := by decide +kernel
theorem dL_law_456 : decode cL_law 456 = .ok (.if_icmp .eq 212, 3) := by decide +kernel
theorem dL_law_459 : decode cL_law 459 = .ok (.iconst 0, 1) := by decide +kernel
theorem dL_law_460 : decode cL_law 460 = .ok (.ireturn, 1) := by decide +kernel
theorem dL_law_461 : decode cL_law 461 = .ok (.aload_n 1, 1) := by decide +kernel
theorem dL_law_462 : decode cL_law 462 = .ok (.aload_n 0, 1) := by decide +kernel
theorem dL_law_463 : decode cL_law 463 = .ok (.iload_n 3, 1) := by decide +kernel
theorem dL_law_464 : decode cL_law 464 = .ok (.iconst 1, 1) := by decide +kernel
theorem dL_law_465 : decode cL_law 465 = .ok (.iadd, 1) := by decide +kernel
theorem dL_law_466 : decode cL_law 466 = .ok (.iaload, 1) := by decide +kernel
theorem dL_law_467 : decode cL_law 467 = .ok (.invokevirtual 62, 3) := by decide +kernel
theorem dL_law_470 : decode cL_law 470 = .ok (.aload_n 2, 1) := by decide +kernel
theorem dL_law_471 : decode cL_law 471 = .ok (.aload_n 0, 1) := by decide +kernel
theorem dL_law_472 : decode cL_law 472 = .ok (.iload_n 3, 1) := by decide +kernel
theorem dL_law_473 : decode cL_law 473 = .ok (.iconst 1, 1) := by decide +kernel
theorem dL_law_474 : decode cL_law 474 = .ok (.iadd, 1) := by decide +kernel
theorem dL_law_475 : decode cL_law 475 = .ok (.iaload, 1) := by decide +kernel
theorem dL_law_476 : decode cL_law 476 = .ok (.invokevirtual 65, 3) := by decide +kernel
theorem dL_law_479 : decode cL_law 479 = .ok (.if_icmp .eq 189, 3) := by decide +kernel
theorem dL_law_482 : decode cL_law 482 = .ok (.iconst 0, 1) := by decide +kernel
theorem dL_law_483 : decode cL_law 483 = .ok (.ireturn, 1) := by decide +kernel
theorem dL_law_484 : decode cL_law 484 = .ok (.aload_n 1, 1) := by decide +kernel
theorem dL_law_485 : decode cL_law 485 = .ok (.aload_n 0, 1) := by decide +kernel
theorem dL_law_486 : decode cL_law 486 = .ok (.iload_n 3, 1) := by decide +kernel
theorem dL_law_487 : decode cL_law 487 = .ok (.iconst 1, 1) := by decide +kernel
theorem dL_law_488 : decode cL_law 488 = .ok (.iadd, 1) := by decide +kernel
theorem dL_law_489 : decode cL_law 489 = .ok (.iaload, 1) := by decide +kernel
theorem dL_law_490 : decode cL_law 490 = .ok (.invokevirtual 66, 3) := by decide +kernel
theorem dL_law_493 : decode cL_law 493 = .ok (.aload_n 2, 1) := by decide +kernel
theorem dL_law_494 : decode cL_law 494 = .ok (.aload_n 0, 1) := by decide +kernel
theorem dL_law_495 : decode cL_law 495 = .ok (.iload_n 3, 1) := by decide +kernel
theorem dL_law_496 : decode cL_law 496 = .ok (.iconst 1, 1) := by decide +kernel
theorem dL_law_497 : decode cL_law 497 = .ok (.iadd, 1) := by decide +kernel
theorem dL_law_498 : decode cL_law 498 = .ok (.iaload, 1) := by decide +kernel
theorem dL_law_499 : decode cL_law 499 = .ok (.invokevirtual 69, 3) := by decide +kernel
theorem dL_law_502 : decode cL_law 502 = .ok (.if_icmp .eq 166, 3) := by decide +kernel
theorem dL_law_505 : decode cL_law 505 = .ok (.iconst 0, 1) := by decide +kernel
theorem dL_law_506 : decode cL_law 506 = .ok (.ireturn, 1) := by decide +kernel
theorem dL_law_507 : decode cL_law 507 = .ok (.aload_n 1, 1) := by decide +kernel
theorem dL_law_508 : decode cL_law 508 = .ok (.aload_n 0, 1) := by decide +kernel
theorem dL_law_509 : decode cL_law 509 = .ok (.iload_n 3, 1) := by decide +kernel
theorem dL_law_510 : decode cL_law 510 = .ok (.iconst 1, 1) := by decide +kernel
theorem dL_law_511 : decode cL_law 511 = .ok (.iadd, 1) := by decide +kernel
theorem dL_law_512 : decode cL_law 512 = .ok (.iaload, 1) := by decide +kernel
theorem dL_law_513 : decode cL_law 513 = .ok (.aload_n 0, 1) := by decide +kernel
theorem dL_law_514 : decode cL_law 514 = .ok (.iload_n 3, 1) := by decide +kernel
theorem dL_law_515 : decode cL_law 515 = .ok (.iconst 2, 1) := by decide +kernel
theorem dL_law_516 : decode cL_law 516 = .ok (.iadd, 1) := by decide +kernel
theorem dL_law_517 : decode cL_law 517 = .ok (.iaload, 1) := by decide +kernel
theorem dL_law_518 : decode cL_law 518 = .ok (.invokevirtual 70, 3) := by decide +kernel
theorem dL_law_521 : decode cL_law 521 = .ok (.aload_n 2, 1) := by decide +kernel
theorem dL_law_522 : decode cL_law 522 = .ok (.aload_n 0, 1) := by decide +kernel
theorem dL_law_523 : decode cL_law 523 = .ok (.iload_n 3, 1) := by decide +kernel
theorem dL_law_524 : decode cL_law 524 = .ok (.iconst 1, 1) := by decide +kernel
theorem dL_law_525 : decode cL_law 525 = .ok (.iadd, 1) := by decide +kernel
theorem dL_law_526 : decode cL_law 526 = .ok (.iaload, 1) := by decide +kernel
theorem dL_law_527 : decode cL_law 527 = .ok (.aload_n 0, 1) := by decide +kernel
theorem dL_law_528 : decode cL_law 528 = .ok (.iload_n 3, 1) := by decide +kernel
theorem dL_law_529 : decode cL_law 529 = .ok (.iconst 2, 1) := by decide +kernel
theorem dL_law_530 : decode cL_law 530 = .ok (.iadd, 1) := by decide +kernel
theorem dL_law_531 : decode cL_law 531 = .ok (.iaload, 1) := by decide +kernel
theorem dL_law_532 : decode cL_law 532 = .ok (.invokevirtual 73, 3) := by decide +kernel
theorem dL_law_535 : decode cL_law 535 = .ok (.if_icmp .eq 133, 3) := by decide +kernel
theorem dL_law_538 : decode cL_law 538 = .ok (.iconst 0, 1) := by decide +kernel
theorem dL_law_539 : decode cL_law 539 = .ok (.ireturn, 1) := by decide +kernel
theorem dL_law_540 : decode cL_law 540 = .ok (.aload_n 1, 1) := by decide +kernel
theorem dL_law_541 : decode cL_law 541 = .ok (.aload_n 0, 1) := by decide +kernel
theorem dL_law_542 : decode cL_law 542 = .ok (.iload_n 3, 1) := by decide +kernel
theorem dL_law_543 : decode cL_law 543 = .ok (.iconst 1, 1) := by decide +kernel
theorem dL_law_544 : decode cL_law 544 = .ok (.iadd, 1) := by decide +kernel
theorem dL_law_545 : decode cL_law 545 = .ok (.iaload, 1) := by decide +kernel
theorem dL_law_546 : decode cL_law 546 = .ok (.invokevirtual 74, 3) := by decide +kernel
theorem dL_law_549 : decode cL_law 549 = .ok (.aload_n 2, 1) := by decide +kernel
theorem dL_law_550 : decode cL_law 550 = .ok (.aload_n 0, 1) := by decide +kernel
theorem dL_law_551 : decode cL_law 551 = .ok (.iload_n 3, 1) := by decide +kernel
theorem dL_law_552 : decode cL_law 552 = .ok (.iconst 1, 1) := by decide +kernel
theorem dL_law_553 : decode cL_law 553 = .ok (.iadd, 1) := by decide +kernel
theorem dL_law_554 : decode cL_law 554 = .ok (.iaload, 1) := by decide +kernel
theorem dL_law_555 : decode cL_law 555 = .ok (.invokevirtual 77, 3) := by decide +kernel
theorem dL_law_558 : decode cL_law 558 = .ok (.if_icmp .eq 110, 3) := by decide +kernel
theorem dL_law_561 : decode cL_law 561 = .ok (.iconst 0, 1) := by decide +kernel
theorem dL_law_562 : decode cL_law 562 = .ok (.ireturn, 1) := by decide +kernel
theorem dL_law_563 : decode cL_law 563 = .ok (.aload_n 1, 1) := by decide +kernel
theorem dL_law_564 : decode cL_law 564 = .ok (.aload_n 0, 1) := by decide +kernel
theorem dL_law_565 : decode cL_law 565 = .ok (.iload_n 3, 1) := by decide +kernel
theorem dL_law_566 : decode cL_law 566 = .ok (.iconst 1, 1) := by decide +kernel
theorem dL_law_567 : decode cL_law 567 = .ok (.iadd, 1) := by decide +kernel
theorem dL_law_568 : decode cL_law 568 = .ok (.iaload, 1) := by decide +kernel
theorem dL_law_569 : decode cL_law 569 = .ok (.aload_n 0, 1) := by decide +kernel
theorem dL_law_570 : decode cL_law 570 = .ok (.iload_n 3, 1) := by decide +kernel
theorem dL_law_571 : decode cL_law 571 = .ok (.iconst 2, 1) := by decide +kernel
theorem dL_law_572 : decode cL_law 572 = .ok (.iadd, 1) := by decide +kernel
theorem dL_law_573 : decode cL_law 573 = .ok (.iaload, 1) := by decide +kernel
theorem dL_law_574 : decode cL_law 574 = .ok (.invokevirtual 78, 3) := by decide +kernel
theorem dL_law_577 : decode cL_law 577 = .ok (.aload_n 2, 1) := by decide +kernel
theorem dL_law_578 : decode cL_law 578 = .ok (.aload_n 0, 1) := by decide +kernel
theorem dL_law_579 : decode cL_law 579 = .ok (.iload_n 3, 1) := by decide +kernel
theorem dL_law_580 : decode cL_law 580 = .ok (.iconst 1, 1) := by decide +kernel
theorem dL_law_581 : decode cL_law 581 = .ok (.iadd, 1) := by decide +kernel
theorem dL_law_582 : decode cL_law 582 = .ok (.iaload, 1) := by decide +kernel
theorem dL_law_583 : decode cL_law 583 = .ok (.aload_n 0, 1) := by decide +kernel
theorem dL_law_584 : decode cL_law 584 = .ok (.iload_n 3, 1) := by decide +kernel
theorem dL_law_585 : decode cL_law 585 = .ok (.iconst 2, 1) := by decide +kernel
theorem dL_law_586 : decode cL_law 586 = .ok (.iadd, 1) := by decide +kernel
theorem dL_law_587 : decode cL_law 587 = .ok (.iaload, 1) := by decide +kernel
theorem dL_law_588 : decode cL_law 588 = .ok (.invokevirtual 81, 3) := by decide +kernel
theorem dL_law_591 : decode cL_law 591 = .ok (.if_icmp .eq 77, 3) := by decide +kernel
theorem dL_law_594 : decode cL_law 594 = .ok (.iconst 0, 1) := by decide +kernel
theorem dL_law_595 : decode cL_law 595 = .ok (.ireturn, 1) := by decide +kernel
theorem dL_law_596 : decode cL_law 596 = .ok (.aload_n 1, 1) := by decide +kernel
theorem dL_law_597 : decode cL_law 597 = .ok (.invokevirtual 82, 3) := by decide +kernel
theorem dL_law_600 : decode cL_law 600 = .ok (.aload_n 2, 1) := by decide +kernel
theorem dL_law_601 : decode cL_law 601 = .ok (.invokevirtual 85, 3) := by decide +kernel
theorem dL_law_604 : decode cL_law 604 = .ok (.if_icmp .eq 64, 3) := by decide +kernel
theorem dL_law_607 : decode cL_law 607 = .ok (.iconst 0, 1) := by decide +kernel
theorem dL_law_608 : decode cL_law 608 = .ok (.ireturn, 1) := by decide +kernel
theorem dL_law_609 : decode cL_law 609 = .ok (.aload_n 1, 1) := by decide +kernel
theorem dL_law_610 : decode cL_law 610 = .ok (.aload_n 0, 1) := by decide +kernel
theorem dL_law_611 : decode cL_law 611 = .ok (.iload_n 3, 1) := by decide +kernel
theorem dL_law_612 : decode cL_law 612 = .ok (.iconst 1, 1) := by decide +kernel
theorem dL_law_613 : decode cL_law 613 = .ok (.iadd, 1) := by decide +kernel
theorem dL_law_614 : decode cL_law 614 = .ok (.iaload, 1) := by decide +kernel
theorem dL_law_615 : decode cL_law 615 = .ok (.invokevirtual 86, 3) := by decide +kernel
theorem dL_law_618 : decode cL_law 618 = .ok (.aload_n 2, 1) := by decide +kernel
theorem dL_law_619 : decode cL_law 619 = .ok (.aload_n 0, 1) := by decide +kernel
theorem dL_law_620 : decode cL_law 620 = .ok (.iload_n 3, 1) := by decide +kernel
theorem dL_law_621 : decode cL_law 621 = .ok (.iconst 1, 1) := by decide +kernel
theorem dL_law_622 : decode cL_law 622 = .ok (.iadd, 1) := by decide +kernel
theorem dL_law_623 : decode cL_law 623 = .ok (.iaload, 1) := by decide +kernel
theorem dL_law_624 : decode cL_law 624 = .ok (.invokevirtual 89, 3) := by decide +kernel
theorem dL_law_627 : decode cL_law 627 = .ok (.if_icmp .eq 41, 3) := by decide +kernel
theorem dL_law_630 : decode cL_law 630 = .ok (.iconst 0, 1) := by decide +kernel
theorem dL_law_631 : decode cL_law 631 = .ok (.ireturn, 1) := by decide +kernel
theorem dL_law_632 : decode cL_law 632 = .ok (.aload_n 1, 1) := by decide +kernel
theorem dL_law_633 : decode cL_law 633 = .ok (.invokevirtual 90, 3) := by decide +kernel
theorem dL_law_636 : decode cL_law 636 = .ok (.aload_n 2, 1) := by decide +kernel
theorem dL_law_637 : decode cL_law 637 = .ok (.invokevirtual 93, 3) := by decide +kernel
theorem dL_law_640 : decode cL_law 640 = .ok (.if_icmp .eq 28, 3) := by decide +kernel
theorem dL_law_643 : decode cL_law 643 = .ok (.iconst 0, 1) := by decide +kernel
theorem dL_law_644 : decode cL_law 644 = .ok (.ireturn, 1) := by decide +kernel
theorem dL_law_645 : decode cL_law 645 = .ok (.aload_n 1, 1) := by decide +kernel
theorem dL_law_646 : decode cL_law 646 = .ok (.aload_n 0, 1) := by decide +kernel
theorem dL_law_647 : decode cL_law 647 = .ok (.iload_n 3, 1) := by decide +kernel
theorem dL_law_648 : decode cL_law 648 = .ok (.iconst 1, 1) := by decide +kernel
theorem dL_law_649 : decode cL_law 649 = .ok (.iadd, 1) := by decide +kernel
theorem dL_law_650 : decode cL_law 650 = .ok (.iaload, 1) := by decide +kernel
theorem dL_law_651 : decode cL_law 651 = .ok (.invokevirtual 94, 3) := by decide +kernel
theorem dL_law_654 : decode cL_law 654 = .ok (.aload_n 2, 1) := by decide +kernel
theorem dL_law_655 : decode cL_law 655 = .ok (.aload_n 0, 1) := by decide +kernel
theorem dL_law_656 : decode cL_law 656 = .ok (.iload_n 3, 1) := by decide +kernel
theorem dL_law_657 : decode cL_law 657 = .ok (.iconst 1, 1) := by decide +kernel
theorem dL_law_658 : decode cL_law 658 = .ok (.iadd, 1) := by decide +kernel
theorem dL_law_659 : decode cL_law 659 = .ok (.iaload, 1) := by decide +kernel
theorem dL_law_660 : decode cL_law 660 = .ok (.invokevirtual 97, 3) := by decide +kernel
theorem dL_law_663 : decode cL_law 663 = .ok (.if_icmp .eq 5, 3) := by decide +kernel
theorem dL_law_666 : decode cL_law 666 = .ok (.iconst 0, 1) := by decide +kernel
theorem dL_law_667 : decode cL_law 667 = .ok (.ireturn, 1) := by decide +kernel
theorem dL_law_668 : decode cL_law 668 = .ok (.iinc 3 5, 3) := by decide +kernel
theorem dL_law_671 : decode cL_law 671 = .ok (.goto (-653), 3) := by decide +kernel
theorem dL_law_674 : decode cL_law 674 = .ok (.iconst 1, 1) := by decide +kernel
theorem dL_law_675 : decode cL_law 675 = .ok (.ireturn, 1) := by decide +kernel
end
section
-- ===== the two worlds: cells by name (kind, place, place), their numbers as one function =====
abbrev ca_I : Type := Nat × Nat × Nat
abbrev ca_S : Type := (ca_I → Nat → Int32) × Int64
def ca_st (σ : ca_S) (c : ca_I) (k : Nat) (x : Int32) : ca_S := (fun c' k' => if c' = c ∧ k' = k then x else σ.1 c' k', σ.2)
def ca_sl (σ : ca_S) (v : Int64) : ca_S := (σ.1, v)
abbrev ca_G : Type := va_G × (ca_I → Nat) × (Nat → ClassId) × Nat
/-- objects: the number of the class in vwCl, how many fields -/
def ca_ob (t : Nat) : Option (Nat × Nat) := match t with
  | 0 => some (9, 12)
  | 2 => some (0, 7)
  | 4 => some (8, 3)
  | 6 => some (2, 3)
  | 7 => some (7, 4)
  | 8 => some (6, 7)
  | 10 => some (3, 2)
  | 13 => some (4, 2)
  | 14 => some (5, 4)
  | 16 => some (1, 4)
  | 20 => some (10, 32)
  | _ => none
/-- arrays of references: type, length -/
def ca_ra (t : Nat) : Option (Nat × Nat) := match t with
  | 1 => some (2, 16)
  | 3 => some (3, 2)
  | 5 => some (4, 2)
  | 11 => some (5, 20)
  | 17 => some (5, 5)
  | _ => none
def ca_ch (c : ca_I) (i : Nat) : ca_I := match c.1 with
  | 1 => (2, i, 0)
  | 3 => (4, c.2.1, i)
  | 5 => (6, c.2.1, i)
  | 11 => (12, i, 0)
  | _ => (18, i, 0)
/-- the model's arrays: the slot of their field, their length (0: none) -/
def ca_ml (k : Nat) : Nat := [0, 0, 32, 32, 32, 32, 0, 0, 0, 0, 0, 0, 16, 16, 16, 16, 32, 32, 32, 32, 0, 400, 400, 400, 400, 400, 0, 0, 320, 0, 0, 16].getD k 0
def ca_ia (c : ca_I) : Nat × Nat := match c.1 with
  | 9 => (0, 320)
  | 12 => (0, 16)
  | 15 => (0, 16)
  | 18 => (0, 5)
  | 19 => (0, 5)
  | _ => (bif Nat.beq c.2.1 15 then 1 else 0, ca_ml c.2.1)
/-- fields that hold references -/
def ca_rf (c : ca_I) (k : Nat) : Option ca_I := match c.1 with
  | 0 => [some (1, 0, 0), none, none, none, none, none, some (7, 0, 0), some (8, 0, 0), some (10, 0, 0), some (13, 0, 0), some (14, 0, 0), some (16, 0, 0)].getD k none
  | 2 => [some (3, c.2.1, 0), some (5, c.2.1, 0)].getD k none
  | 8 => bif Nat.blt k 6 then some (9, k, 0) else none
  | 10 => [some (11, 0, 0)].getD k none
  | 14 => [some (15, 0, 0)].getD k none
  | 16 => [some (17, 0, 0), some (19, 0, 0)].getD k none
  | 20 => bif Nat.blt 0 (ca_ml k) then some (21, k, 0) else none
  | _ => none
def ca_lg (c : ca_I) (k : Nat) : Bool := (Nat.beq c.1 13 && Nat.beq k 0) || (Nat.beq c.1 20 && Nat.beq k 29)
def ca_fv (Γ : ca_G) (σ : ca_S) (c : ca_I) (k : Nat) : Value := match ca_rf c k with
  | some d => .ref (Γ.2.1 d)
  | none => bif ca_lg c k then .long σ.2 else .int (σ.1 c k)
def ca_E (Γ : ca_G) (σ : ca_S) (c : ca_I) : va_E := match ca_ob c.1 with
  | some q => .inr (q.1, (List.range q.2).map (ca_fv Γ σ c))
  | none => match ca_ra c.1 with
    | some q => .inl (Γ.2.2.1 q.1, q.2, .inr (.inr (.inr (.inr (fun i => some (Γ.2.1 (ca_ch c i)))))))
    | none => .inl (Γ.2.2.1 (ca_ia c).1, (ca_ia c).2, .inl (σ.1 c))
def ca_lay (Γ : ca_G) (cs : List ca_I) (σ : ca_S) : va_W := cs.map (fun c => (Γ.2.1 c, ca_E Γ σ c))
def ca_Ad (Γ : ca_G) (cs : List ca_I) : Nat → Prop := fun q => ∃ c ∈ cs, Γ.2.1 c = q
/-- the class's cells, the reference's cells -/
def ca_cC : List ca_I := [(0, 0, 0), (1, 0, 0), (7, 0, 0), (8, 0, 0), (10, 0, 0), (11, 0, 0), (13, 0, 0), (14, 0, 0), (15, 0, 0), (16, 0, 0), (17, 0, 0), (19, 0, 0)] ++ ((List.range 6).map (fun k => (9, k, 0)) ++ ((List.range 20).map (fun k => (12, k, 0)) ++ ((List.range 5).map (fun k => (18, k, 0)) ++ (List.range 16).flatMap (fun i => [(2, i, 0), (3, i, 0), (5, i, 0), (4, i, 0), (4, i, 1), (6, i, 0), (6, i, 1)]))))
def ca_cM : List ca_I := (20, 0, 0) :: ([2, 3, 4, 5, 12, 13, 14, 15, 16, 17, 18, 19, 21, 22, 23, 24, 25, 28, 31].map (fun k => (21, k, 0)))
theorem ca_st_ne {σ : ca_S} {c d : ca_I} {k : Nat} {x : Int32} (h : d ≠ c) : (ca_st σ c k x).1 d = σ.1 d := by
  funext j
  simp [ca_st, h]
theorem ca_st_eq {σ : ca_S} {c : ca_I} {k : Nat} {x : Int32} : (ca_st σ c k x).1 c = fun j => if j = k then x else σ.1 c j := by
  funext j
  simp [ca_st]
theorem ca_E_ne {Γ : ca_G} {σ : ca_S} {c d : ca_I} {k : Nat} {x : Int32} (h : d ≠ c) : ca_E Γ (ca_st σ c k x) d = ca_E Γ σ d := by
  have h1 : (ca_st σ c k x).1 d = σ.1 d := ca_st_ne h
  have h2 : (ca_st σ c k x).2 = σ.2 := rfl
  have h3 : ca_fv Γ (ca_st σ c k x) d = ca_fv Γ σ d := by
    funext j
    simp only [ca_fv, h1, h2]
  simp only [ca_E, h1, h3]
theorem ca_E_sl {Γ : ca_G} {σ : ca_S} {d : ca_I} {v : Int64} (h : d.1 ≠ 13) (h2 : d.1 ≠ 20) : ca_E Γ (ca_sl σ v) d = ca_E Γ σ d := by
  have h3 : ca_fv Γ (ca_sl σ v) d = ca_fv Γ σ d := by
    funext j
    have h4 : ca_lg d j = false := by simp [ca_lg, h, h2]
    simp only [ca_fv, h4]
    rfl
  simp only [ca_E, h3]
  rfl
theorem ca_E_ob {Γ : ca_G} {σ : ca_S} {c : ca_I} {ci N : Nat} (h : ca_ob c.1 = some (ci, N)) : ca_E Γ σ c = .inr (ci, (List.range N).map (ca_fv Γ σ c)) := by
  simp only [ca_E, h]
theorem ca_map_set {α : Type} (N : Nat) (g g' : Nat → α) (k : Nat) (h : ∀ j, j ≠ k → g' j = g j) : ((List.range N).map g).set k (g' k) = (List.range N).map g' := by
  apply List.ext_getElem?
  intro j
  by_cases hj : j < N
  · by_cases e : k = j
    · subst e
      rw [List.getElem?_set_self (by simp; exact hj)]
      simp [hj]
    · rw [List.getElem?_set_ne e]
      simp [hj, h j (fun q => e q.symm)]
  · have h1 : ((List.range N).map g').length ≤ j := by simp; omega
    have h2 : (((List.range N).map g).set k (g' k)).length ≤ j := by simp; omega
    rw [List.getElem?_eq_none h1, List.getElem?_eq_none h2]
theorem ca_E_put {Γ : ca_G} {σ : ca_S} {c : ca_I} {ci N k : Nat} {x : Int32} (h : ca_ob c.1 = some (ci, N)) (hr : ca_rf c k = none) (hl : ca_lg c k = false) : ca_E Γ (ca_st σ c k x) c = .inr (ci, ((List.range N).map (ca_fv Γ σ c)).set k (.int x)) := by
  rw [ca_E_ob h]
  have e : ca_fv Γ (ca_st σ c k x) c k = .int x := by
    simp only [ca_fv, hr, hl, ca_st_eq]
    simp
  rw [← e, ca_map_set N (ca_fv Γ σ c) (ca_fv Γ (ca_st σ c k x) c) k (fun j hj => by
    have h2 : (ca_st σ c k x).2 = σ.2 := rfl
    simp only [ca_fv, ca_st_eq, if_neg hj, h2])]
theorem ca_E_putL {Γ : ca_G} {σ : ca_S} {c : ca_I} {ci N k : Nat} {v : Int64} (h : ca_ob c.1 = some (ci, N)) (hr : ca_rf c k = none) (hl : ca_lg c k = true) (hu : ∀ j, j ≠ k → ca_lg c j = false) : ca_E Γ (ca_sl σ v) c = .inr (ci, ((List.range N).map (ca_fv Γ σ c)).set k (.long v)) := by
  rw [ca_E_ob h]
  have e : ca_fv Γ (ca_sl σ v) c k = .long v := by
    simp only [ca_fv, hr, hl]
    rfl
  rw [← e, ca_map_set N (ca_fv Γ σ c) (ca_fv Γ (ca_sl σ v) c) k (fun j hj => by
    simp only [ca_fv, hu j hj]
    rfl)]
theorem ca_E_ia {Γ : ca_G} {σ : ca_S} {c : ca_I} (h : ca_ob c.1 = none) (h2 : ca_ra c.1 = none) : ca_E Γ σ c = .inl (Γ.2.2.1 (ca_ia c).1, (ca_ia c).2, .inl (σ.1 c)) := by
  simp only [ca_E, h, h2]
theorem ca_E_ra {Γ : ca_G} {σ : ca_S} {c : ca_I} {t n : Nat} (h : ca_ob c.1 = none) (h2 : ca_ra c.1 = some (t, n)) : ca_E Γ σ c = .inl (Γ.2.2.1 t, n, .inr (.inr (.inr (.inr (fun i => some (Γ.2.1 (ca_ch c i))))))) := by
  simp only [ca_E, h, h2]
theorem ca_nd_inj {α : Type} {l : List α} (hn : l.Nodup) {i j : Nat} {a : α} (hi : l[i]? = some a) (hj : l[j]? = some a) : i = j := by
  obtain ⟨h1, h2⟩ := List.getElem?_eq_some_iff.mp hi
  obtain ⟨h3, h4⟩ := List.getElem?_eq_some_iff.mp hj
  rcases Nat.lt_trichotomy i j with h | h | h
  · exact absurd (h2.trans h4.symm) (List.pairwise_iff_getElem.mp hn i j h1 h3 h)
  · exact h
  · exact absurd (h4.trans h2.symm) (List.pairwise_iff_getElem.mp hn j i h3 h1 h)
theorem ca_lay_get {Γ : ca_G} {cs : List ca_I} (σ : ca_S) {c : ca_I} (h : c ∈ cs) : ∃ k : Nat, (ca_lay Γ cs σ)[k]? = some (Γ.2.1 c, ca_E Γ σ c) ∧ cs[k]? = some c := by
  obtain ⟨k, hk⟩ := List.getElem?_of_mem h
  exact ⟨k, by simp [ca_lay, hk], hk⟩
theorem ca_lay_set {Γ : ca_G} {cs : List ca_I} {σ σ' : ca_S} {c : ca_I} {k : Nat} (hn : cs.Nodup) (hk : cs[k]? = some c) (h : ∀ d ∈ cs, d ≠ c → ca_E Γ σ' d = ca_E Γ σ d) : (ca_lay Γ cs σ).set k (Γ.2.1 c, ca_E Γ σ' c) = ca_lay Γ cs σ' := by
  have hl : k < cs.length := (List.getElem?_eq_some_iff.mp hk).1
  apply List.ext_getElem?
  intro j
  by_cases e : k = j
  · subst e
    rw [List.getElem?_set_self (by simp [ca_lay]; exact hl)]
    simp [ca_lay, hk]
  · rw [List.getElem?_set_ne e]
    simp only [ca_lay, List.getElem?_map]
    cases hj : cs[j]? with
    | none => rfl
    | some d =>
      have hd : d ≠ c := by
        intro q
        subst q
        exact e (ca_nd_inj hn hk hj)
      have := h d (List.mem_of_getElem? hj) hd
      simp [this]
theorem ca_lay_D {Γ : ca_G} {cs : List ca_I} (σ : ca_S) (hn : cs.Nodup) (hi : ∀ c ∈ cs, ∀ d ∈ cs, Γ.2.1 c = Γ.2.1 d → c = d) : va_D (ca_Ad Γ cs) (ca_lay Γ cs σ) := by
  have key : ∀ (k : Nat) (q : Nat × va_E), (ca_lay Γ cs σ)[k]? = some q → ∃ c, cs[k]? = some c ∧ q.1 = Γ.2.1 c := by
    intro k q hk
    simp only [ca_lay, List.getElem?_map] at hk
    cases hc : cs[k]? with
    | none => rw [hc] at hk; cases hk
    | some c => rw [hc] at hk; cases hk; exact ⟨c, rfl, rfl⟩
  refine ⟨fun i j x y hx hy hxy => ?_, fun k q hk => ?_⟩
  · obtain ⟨c, h1, h2⟩ := key i x hx
    obtain ⟨d, h3, h4⟩ := key j y hy
    have e := hi c (List.mem_of_getElem? h1) d (List.mem_of_getElem? h3) (h2.symm.trans (hxy.trans h4))
    subst e
    exact ca_nd_inj hn h1 h3
  · obtain ⟨c, h1, h2⟩ := key k q hk
    exact ⟨c, List.mem_of_getElem? h1, h2.symm⟩
-- ===== what stands still: the tables' words, the classes, the constant row WAYS =====
def ca_ok (w : Cond) : Bool := goodWord w || (match w with
  | .fieldLinkNest _ _ _ _ _ _ => true
  | .methodLinkNest _ _ _ _ => true
  | _ => false)
def ca_Ws (U : State) : Prop := ∀ w ∈ lw_tbl, ca_ok w = true → w.before #[] U = true
theorem ca_Ws.warm {s U : State} (hW : s.WarmedH U.vm) (h : ca_Ws s) : ca_Ws U := by
  intro w hw hk
  have h1 := h w hw hk
  unfold ca_ok at hk
  rcases (Bool.or_eq_true _ _).mp hk with hg | hn
  · exact word_at hW (good_of_word hg) h1
  · cases w <;> first | (exact va_Nw.warmF hW h1) | (exact va_Nw.warmM hW h1) | (simp at hn)
abbrev ca_tys (Γ : ca_G) : List (ClassId × FieldType) := [(Γ.2.2.1 0, .int), (Γ.2.2.1 1, .boolean), (Γ.2.2.1 2, .object "ClassAnswers$Box"), (Γ.2.2.1 3, .object "ClassAnswers$Road"), (Γ.2.2.1 4, .object "ClassAnswers$Kept"), (Γ.2.2.1 5, .array .int)]
def ca_ways (j : Nat) : Int32 := [1, 1, 2, 6, 24, 120].getD j 0
def ca_SF (Γ : ca_G) (cs : List ca_I) (U : State) : Prop := va_Z "ClassAnswers$Joiner" "WAYS" "[I" (.ref Γ.2.2.2) (ca_Ad Γ cs) U U.heap ∧ va_T .int Γ.2.2.2 6 (fun j => .int (ca_ways j)) (ca_Ad Γ cs) U U.heap
def ca_X (Γ : ca_G) (cs : List ca_I) (U : State) : Prop := ca_Ws U ∧ va_K Γ.1 vwCl (ca_tys Γ) U ∧ (cs.Nodup ∧ ∀ c ∈ cs, ∀ d ∈ cs, Γ.2.1 c = Γ.2.1 d → c = d) ∧ ca_SF Γ cs U
theorem ca_X.warm {Γ : ca_G} {cs : List ca_I} {s U : State} (hW : s.WarmedH U.vm) (hS : ∀ q : Nat, q < s.heap.size → ¬ ca_Ad Γ cs q → U.heap[q]? = s.heap[q]?) (h : ca_X Γ cs s) : ca_X Γ cs U :=
  ⟨h.1.warm hW, va_K.moved hW.alike h.2.1, h.2.2.1, (h.2.2.2.1.kept hS).moved hW.alike, (h.2.2.2.2.kept hS).moved hW.alike⟩
-- ===== the judgement: the machine, at a place of a method, comes to the end that X tells =====
abbrev ca_K : Type := ca_G × List ca_I × Program × Launch × Env × Room × State × MethodId × Array Value × List Frame × Method × Code × Nat
def ca_a (κ : ca_K) (c : ca_I) : Nat := κ.1.2.1 c
def ca_C (κ : ca_K) (cs : List ca_I) (cc : ByteArray) (own : String) (ret : Option FieldType) (fr lo : Nat) : Prop := match κ with
  | (Γ, cs', p, _, _, R, s, m, _, _, meth, c, nL) => cs' = cs ∧ p.tables.exec = Jvm.exec ∧ c.code = cc ∧ c.maxLocals = nL ∧ s.vm.findClass own = some m.cls ∧ ca_X Γ cs' s ∧ meth.locks = false ∧ meth.sig.returnType = ret ∧ fr ≤ R.frames ∧ lo ≤ R.locals
def ca_T {ρ : Type} (κ : ca_K) (Z : ρ → State → Prop) (σ : ca_S) (pc : Nat) (lv : List (Nat × Value)) (st : List Value) (X : Option ρ) : Prop := match κ with
  | (Γ, cs, p, l, e, R, s, m, args, below, meth, c, nL) => ∀ r, X = some r → ∀ (H : Heap) (locs : List Loc) (ls : Array Slot), va_P Γ.1 vwCl (ca_lay Γ cs σ) H → va_S (ca_Ad Γ cs) s.heap H locs → lv_has ls nL lv → W p l e R s m args below meth c H locs 0 0 (Z r) (F0 m pc ls st)
def ca_Qi (Γ : ca_G) (cs : List ca_I) (q : Int32 × ca_S) : Array Value → State → Outcome → State → Prop := va_Qi (S := Unit) (fun x _ => x = q.1) (fun _ t => va_P Γ.1 vwCl (ca_lay Γ cs q.2) t.heap) (ca_Ad Γ cs)
def ca_Qv (Γ : ca_G) (cs : List ca_I) (σ : ca_S) : Array Value → State → Outcome → State → Prop := va_Qv (S := Unit) (fun _ => True) (fun _ t => va_P Γ.1 vwCl (ca_lay Γ cs σ) t.heap) (ca_Ad Γ cs)
def ca_Z {ρ : Type} (Q : ρ → Array Value → State → Outcome → State → Prop) (κ : ca_K) (r : ρ) : State → Prop := match κ with
  | (Γ, cs, _, _, _, _, s, _, args, below, _, _, _) => MQ below (Q r) args s 0 0 (ca_Ad Γ cs)
def ca_Zi (κ : ca_K) : Int32 × ca_S → State → Prop := ca_Z (ca_Qi κ.1 κ.2.1) κ
def ca_Zr (κ : ca_K) (σ : ca_S) : Int32 → State → Prop := ca_Z (fun r => ca_Qi κ.1 κ.2.1 (r, σ)) κ
def ca_Zv (κ : ca_K) : ca_S → State → Prop := ca_Z (ca_Qv κ.1 κ.2.1) κ
/-- a method's contract: where X tells an answer, the method gives it -/
def ca_M {ρ : Type} (Q : ρ → Array Value → State → Outcome → State → Prop) (Γ : ca_G) (cs : List ca_I) (l : Launch) (y : MethodName) (cc : ByteArray) (nL : Nat) (ret : Option FieldType) (fr lo : Nat) (av : List Value) (σ : ca_S) (X : Option ρ) : Prop :=
  ∀ r, X = some r → Met l y [.code y cc nL ret] { frames := fr, cells := 0, slots := 0, locals := lo } (va_Pc av (fun U => ca_X Γ cs U ∧ va_P Γ.1 vwCl (ca_lay Γ cs σ) U.heap)) (Q r) 0 0 (ca_Ad Γ cs)
abbrev ca_Mi (Γ : ca_G) (cs : List ca_I) := ca_M (ca_Qi Γ cs) Γ cs
abbrev ca_Mv (Γ : ca_G) (cs : List ca_I) := ca_M (ca_Qv Γ cs) Γ cs
abbrev ca_Mr (Γ : ca_G) (cs : List ca_I) (l : Launch) (y : MethodName) (cc : ByteArray) (nL : Nat) (ret : Option FieldType) (fr lo : Nat) (av : List Value) (σ : ca_S) (X : Option Int32) : Prop := ca_M (fun r => ca_Qi Γ cs (r, σ)) Γ cs l y cc nL ret fr lo av σ X
def ca_bi {ρ : Type} (o : Option (Int32 × ca_S)) (f : Int32 → ca_S → Option ρ) : Option ρ := match o with
  | some q => f q.1 q.2
  | none => none
def ca_br {ρ : Type} (o : Option Int32) (f : Int32 → Option ρ) : Option ρ := match o with
  | some r => f r
  | none => none
def ca_bv {ρ : Type} (o : Option ca_S) (f : ca_S → Option ρ) : Option ρ := match o with
  | some r => f r
  | none => none
def ca_gd {ρ : Type} (b : Bool) (X : Option ρ) : Option ρ := match b with
  | true => X
  | false => none
def ca_in (i : Int32) (n : Nat) : Bool := decide (¬ i < 0) && decide (i.toNatClampNeg < n)
theorem ca_in_vp {i : Int32} {n : Nat} (h : ca_in i n = true) : vp_in i n := by
  simp only [ca_in, Bool.and_eq_true, decide_eq_true_eq] at h
  exact fun q => q.elim h.1 (fun q => Nat.not_le.mpr h.2 q)
theorem ca_in_lt {i : Int32} {n : Nat} (h : ca_in i n = true) : i.toNatClampNeg < n := by
  simp only [ca_in, Bool.and_eq_true, decide_eq_true_eq] at h
  exact h.2
end
section
-- ===== words of the tables, one by one =====
def ca_Yw (w : Cond) : Prop := w ∈ lw_tbl ∧ ca_ok w = true
theorem ca_Yw.use {w : Cond} (h : ca_Yw w) (ho : w.onTables = true) {args : Array Value} {s : State} (hW : ca_Ws s) : w.before args s = true := va_Nw.use ho (hW w h.1 h.2)
theorem ca_no {ρ : Type} {κ : ca_K} {Z : ρ → State → Prop} {σ : ca_S} {pc : Nat} {lv : List (Nat × Value)} {st : List Value} : ca_T κ Z σ pc lv st none := by
  obtain ⟨Γ, cs', p, l, e, R, s, m, args, below, meth, c, nL⟩ := κ
  intro r hr
  cases hr
theorem ca_pick {ρ : Type} {κ : ca_K} {Z : ρ → State → Prop} {σ : ca_S} {pc : Nat} {lv lv' : List (Nat × Value)} {st : List Value} {X : Option ρ} (ks : List Nat) (h : lv_pick lv ks = lv') (k : ca_T κ Z σ pc lv' st X) : ca_T κ Z σ pc lv st X := by
  obtain ⟨Γ, cs', p, l, e, R, s, m, args, below, meth, c, nL⟩ := κ
  intro r hr H locs ls hP hS hl
  exact k r hr H locs ls hP hS (lv_sub hl ks h)
theorem ca_iconst {κ : ca_K} {cs : List ca_I} {cc : ByteArray} {own : String} {ret : Option FieldType} {fr lo : Nat} {ρ : Type} {Z : ρ → State → Prop} {σ : ca_S} {pc q : Nat} {lv : List (Nat × Value)} {st : List Value} {X : Option ρ} (hC : ca_C κ cs cc own ret fr lo) {n : Int} {v : Int32} (hd : decode cc pc = .ok (.iconst n, 1)) (hv : Int32.ofInt n = v) (hq : pc + 1 = q) (k : ca_T κ Z σ q lv (.int v :: st) X) : ca_T κ Z σ pc lv (st) X := by
  obtain ⟨Γ, cs', p, l, e, R, s, m, args, below, meth, c, nL⟩ := κ
  obtain ⟨rfl, hx, hb, hml, hown, hX, -⟩ := hC
  subst hq
  intro r hr H locs ls hP hS hl
  exact lv_iconst hx hb hd hv (k r hr H locs ls hP hS hl)
theorem ca_bipush {κ : ca_K} {cs : List ca_I} {cc : ByteArray} {own : String} {ret : Option FieldType} {fr lo : Nat} {ρ : Type} {Z : ρ → State → Prop} {σ : ca_S} {pc q : Nat} {lv : List (Nat × Value)} {st : List Value} {X : Option ρ} (hC : ca_C κ cs cc own ret fr lo) {n : Int} {v : Int32} (hd : decode cc pc = .ok (.bipush n, 2)) (hv : (Int8.ofInt n).toInt32 = v) (hq : pc + 2 = q) (k : ca_T κ Z σ q lv (.int v :: st) X) : ca_T κ Z σ pc lv (st) X := by
  obtain ⟨Γ, cs', p, l, e, R, s, m, args, below, meth, c, nL⟩ := κ
  obtain ⟨rfl, hx, hb, hml, hown, hX, -⟩ := hC
  subst hq
  intro r hr H locs ls hP hS hl
  exact lv_bipush hx hb hd hv (k r hr H locs ls hP hS hl)
theorem ca_sipush {κ : ca_K} {cs : List ca_I} {cc : ByteArray} {own : String} {ret : Option FieldType} {fr lo : Nat} {ρ : Type} {Z : ρ → State → Prop} {σ : ca_S} {pc q : Nat} {lv : List (Nat × Value)} {st : List Value} {X : Option ρ} (hC : ca_C κ cs cc own ret fr lo) {n : Int} {v : Int32} (hd : decode cc pc = .ok (.sipush n, 3)) (hv : (Int16.ofInt n).toInt32 = v) (hq : pc + 3 = q) (k : ca_T κ Z σ q lv (.int v :: st) X) : ca_T κ Z σ pc lv (st) X := by
  obtain ⟨Γ, cs', p, l, e, R, s, m, args, below, meth, c, nL⟩ := κ
  obtain ⟨rfl, hx, hb, hml, hown, hX, -⟩ := hC
  subst hq
  intro r hr H locs ls hP hS hl
  exact lv_sipush hx hb hd hv (k r hr H locs ls hP hS hl)
theorem ca_lconst {κ : ca_K} {cs : List ca_I} {cc : ByteArray} {own : String} {ret : Option FieldType} {fr lo : Nat} {ρ : Type} {Z : ρ → State → Prop} {σ : ca_S} {pc q : Nat} {lv : List (Nat × Value)} {st : List Value} {X : Option ρ} (hC : ca_C κ cs cc own ret fr lo) {n : Fin 2} {v : Int64} (hd : decode cc pc = .ok (.lconst n, 1)) (hv : Int64.ofNat (n : Nat) = v) (hq : pc + 1 = q) (k : ca_T κ Z σ q lv (.long v :: st) X) : ca_T κ Z σ pc lv (st) X := by
  obtain ⟨Γ, cs', p, l, e, R, s, m, args, below, meth, c, nL⟩ := κ
  obtain ⟨rfl, hx, hb, hml, hown, hX, -⟩ := hC
  subst hq
  intro r hr H locs ls hP hS hl
  exact lv_lconst hx hb hd hv (k r hr H locs ls hP hS hl)
theorem ca_iload_n {κ : ca_K} {cs : List ca_I} {cc : ByteArray} {own : String} {ret : Option FieldType} {fr lo : Nat} {ρ : Type} {Z : ρ → State → Prop} {σ : ca_S} {pc q : Nat} {lv : List (Nat × Value)} {st : List Value} {X : Option ρ} (hC : ca_C κ cs cc own ret fr lo) {k : Fin 4} (j : Nat) {i : Nat} {x : Int32} (hd : decode cc pc = .ok (.iload_n k, 1)) (hi : (k : Nat) = i) (hj : lv[j]? = some (i, .int x)) (hq : pc + 1 = q) (k : ca_T κ Z σ q lv (.int x :: st) X) : ca_T κ Z σ pc lv (st) X := by
  obtain ⟨Γ, cs', p, l, e, R, s, m, args, below, meth, c, nL⟩ := κ
  obtain ⟨rfl, hx, hb, hml, hown, hX, -⟩ := hC
  subst hq
  intro r hr H locs ls hP hS hl
  exact lv_iload_n hx hb hd hi (lv_at hl j hj) (k r hr H locs ls hP hS hl)
theorem ca_iload {κ : ca_K} {cs : List ca_I} {cc : ByteArray} {own : String} {ret : Option FieldType} {fr lo : Nat} {ρ : Type} {Z : ρ → State → Prop} {σ : ca_S} {pc q : Nat} {lv : List (Nat × Value)} {st : List Value} {X : Option ρ} (hC : ca_C κ cs cc own ret fr lo) (j : Nat) {i : Nat} {x : Int32} (hd : decode cc pc = .ok (.iload i, 2)) (hj : lv[j]? = some (i, .int x)) (hq : pc + 2 = q) (k : ca_T κ Z σ q lv (.int x :: st) X) : ca_T κ Z σ pc lv (st) X := by
  obtain ⟨Γ, cs', p, l, e, R, s, m, args, below, meth, c, nL⟩ := κ
  obtain ⟨rfl, hx, hb, hml, hown, hX, -⟩ := hC
  subst hq
  intro r hr H locs ls hP hS hl
  exact lv_iload hx hb hd (lv_at hl j hj) (k r hr H locs ls hP hS hl)
theorem ca_istore_n {κ : ca_K} {cs : List ca_I} {cc : ByteArray} {own : String} {ret : Option FieldType} {fr lo : Nat} {ρ : Type} {Z : ρ → State → Prop} {σ : ca_S} {pc q : Nat} {lv : List (Nat × Value)} {st : List Value} {X : Option ρ} (hC : ca_C κ cs cc own ret fr lo) {k : Fin 4} {i : Nat} {x : Int32} {lv' : List (Nat × Value)} (hd : decode cc pc = .ok (.istore_n k, 1)) (hi : (k : Nat) = i) (hn : i < κ.2.2.2.2.2.2.2.2.2.2.2.2) (hl' : (i, Value.int x) :: lv.filter (fun q => !(q.1 == i) && !(q.1 + 1 == i && q.2.category == 2)) = lv') (hq : pc + 1 = q) (k : ca_T κ Z σ q lv' (st) X) : ca_T κ Z σ pc lv (.int x :: st) X := by
  obtain ⟨Γ, cs', p, l, e, R, s, m, args, below, meth, c, nL⟩ := κ
  obtain ⟨rfl, hx, hb, hml, hown, hX, -⟩ := hC
  subst hq
  intro r hr H locs ls hP hS hl
  exact lv_istore_n hx hb hd hi hl hn hl' (fun ls hl => k r hr H locs ls hP hS hl)
theorem ca_istore {κ : ca_K} {cs : List ca_I} {cc : ByteArray} {own : String} {ret : Option FieldType} {fr lo : Nat} {ρ : Type} {Z : ρ → State → Prop} {σ : ca_S} {pc q : Nat} {lv : List (Nat × Value)} {st : List Value} {X : Option ρ} (hC : ca_C κ cs cc own ret fr lo) {i : Nat} {x : Int32} {lv' : List (Nat × Value)} (hd : decode cc pc = .ok (.istore i, 2)) (hn : i < κ.2.2.2.2.2.2.2.2.2.2.2.2) (hl' : (i, Value.int x) :: lv.filter (fun q => !(q.1 == i) && !(q.1 + 1 == i && q.2.category == 2)) = lv') (hq : pc + 2 = q) (k : ca_T κ Z σ q lv' (st) X) : ca_T κ Z σ pc lv (.int x :: st) X := by
  obtain ⟨Γ, cs', p, l, e, R, s, m, args, below, meth, c, nL⟩ := κ
  obtain ⟨rfl, hx, hb, hml, hown, hX, -⟩ := hC
  subst hq
  intro r hr H locs ls hP hS hl
  exact lv_istore hx hb hd hl hn hl' (fun ls hl => k r hr H locs ls hP hS hl)
theorem ca_aload_n {κ : ca_K} {cs : List ca_I} {cc : ByteArray} {own : String} {ret : Option FieldType} {fr lo : Nat} {ρ : Type} {Z : ρ → State → Prop} {σ : ca_S} {pc q : Nat} {lv : List (Nat × Value)} {st : List Value} {X : Option ρ} (hC : ca_C κ cs cc own ret fr lo) {k : Fin 4} (j : Nat) {i : Nat} {x : Nat} (hd : decode cc pc = .ok (.aload_n k, 1)) (hi : (k : Nat) = i) (hj : lv[j]? = some (i, .ref x)) (hq : pc + 1 = q) (k : ca_T κ Z σ q lv (.ref x :: st) X) : ca_T κ Z σ pc lv (st) X := by
  obtain ⟨Γ, cs', p, l, e, R, s, m, args, below, meth, c, nL⟩ := κ
  obtain ⟨rfl, hx, hb, hml, hown, hX, -⟩ := hC
  subst hq
  intro r hr H locs ls hP hS hl
  exact lv_aload_n hx hb hd hi (lv_at hl j hj) (k r hr H locs ls hP hS hl)
theorem ca_aload {κ : ca_K} {cs : List ca_I} {cc : ByteArray} {own : String} {ret : Option FieldType} {fr lo : Nat} {ρ : Type} {Z : ρ → State → Prop} {σ : ca_S} {pc q : Nat} {lv : List (Nat × Value)} {st : List Value} {X : Option ρ} (hC : ca_C κ cs cc own ret fr lo) (j : Nat) {i : Nat} {x : Nat} (hd : decode cc pc = .ok (.aload i, 2)) (hj : lv[j]? = some (i, .ref x)) (hq : pc + 2 = q) (k : ca_T κ Z σ q lv (.ref x :: st) X) : ca_T κ Z σ pc lv (st) X := by
  obtain ⟨Γ, cs', p, l, e, R, s, m, args, below, meth, c, nL⟩ := κ
  obtain ⟨rfl, hx, hb, hml, hown, hX, -⟩ := hC
  subst hq
  intro r hr H locs ls hP hS hl
  exact lv_aload hx hb hd (lv_at hl j hj) (k r hr H locs ls hP hS hl)
theorem ca_astore_n {κ : ca_K} {cs : List ca_I} {cc : ByteArray} {own : String} {ret : Option FieldType} {fr lo : Nat} {ρ : Type} {Z : ρ → State → Prop} {σ : ca_S} {pc q : Nat} {lv : List (Nat × Value)} {st : List Value} {X : Option ρ} (hC : ca_C κ cs cc own ret fr lo) {k : Fin 4} {i : Nat} {x : Nat} {lv' : List (Nat × Value)} (hd : decode cc pc = .ok (.astore_n k, 1)) (hi : (k : Nat) = i) (hn : i < κ.2.2.2.2.2.2.2.2.2.2.2.2) (hl' : (i, Value.ref x) :: lv.filter (fun q => !(q.1 == i) && !(q.1 + 1 == i && q.2.category == 2)) = lv') (hq : pc + 1 = q) (k : ca_T κ Z σ q lv' (st) X) : ca_T κ Z σ pc lv (.ref x :: st) X := by
  obtain ⟨Γ, cs', p, l, e, R, s, m, args, below, meth, c, nL⟩ := κ
  obtain ⟨rfl, hx, hb, hml, hown, hX, -⟩ := hC
  subst hq
  intro r hr H locs ls hP hS hl
  exact lv_astore_n hx hb hd hi hl hn hl' (fun ls hl => k r hr H locs ls hP hS hl)
theorem ca_astore {κ : ca_K} {cs : List ca_I} {cc : ByteArray} {own : String} {ret : Option FieldType} {fr lo : Nat} {ρ : Type} {Z : ρ → State → Prop} {σ : ca_S} {pc q : Nat} {lv : List (Nat × Value)} {st : List Value} {X : Option ρ} (hC : ca_C κ cs cc own ret fr lo) {i : Nat} {x : Nat} {lv' : List (Nat × Value)} (hd : decode cc pc = .ok (.astore i, 2)) (hn : i < κ.2.2.2.2.2.2.2.2.2.2.2.2) (hl' : (i, Value.ref x) :: lv.filter (fun q => !(q.1 == i) && !(q.1 + 1 == i && q.2.category == 2)) = lv') (hq : pc + 2 = q) (k : ca_T κ Z σ q lv' (st) X) : ca_T κ Z σ pc lv (.ref x :: st) X := by
  obtain ⟨Γ, cs', p, l, e, R, s, m, args, below, meth, c, nL⟩ := κ
  obtain ⟨rfl, hx, hb, hml, hown, hX, -⟩ := hC
  subst hq
  intro r hr H locs ls hP hS hl
  exact lv_astore hx hb hd hl hn hl' (fun ls hl => k r hr H locs ls hP hS hl)
theorem ca_iinc {κ : ca_K} {cs : List ca_I} {cc : ByteArray} {own : String} {ret : Option FieldType} {fr lo : Nat} {ρ : Type} {Z : ρ → State → Prop} {σ : ca_S} {pc q : Nat} {lv : List (Nat × Value)} {st : List Value} {X : Option ρ} (hC : ca_C κ cs cc own ret fr lo) (j : Nat) {i : Nat} {n : Int} {x v : Int32} {lv' : List (Nat × Value)} (hd : decode cc pc = .ok (.iinc i n, 3)) (hj : lv[j]? = some (i, .int x)) (hv : x + Int32.ofInt n = v) (hn : i < κ.2.2.2.2.2.2.2.2.2.2.2.2) (hl' : (i, Value.int v) :: lv.filter (fun q => !(q.1 == i) && !(q.1 + 1 == i && q.2.category == 2)) = lv') (hq : pc + 3 = q) (k : ca_T κ Z σ q lv' (st) X) : ca_T κ Z σ pc lv (st) X := by
  obtain ⟨Γ, cs', p, l, e, R, s, m, args, below, meth, c, nL⟩ := κ
  obtain ⟨rfl, hx, hb, hml, hown, hX, -⟩ := hC
  subst hq
  intro r hr H locs ls hP hS hl
  exact lv_iinc hx hb hd hl hj hv hn hl' (fun ls hl => k r hr H locs ls hP hS hl)
theorem ca_iadd {κ : ca_K} {cs : List ca_I} {cc : ByteArray} {own : String} {ret : Option FieldType} {fr lo : Nat} {ρ : Type} {Z : ρ → State → Prop} {σ : ca_S} {pc q : Nat} {lv : List (Nat × Value)} {st : List Value} {X : Option ρ} (hC : ca_C κ cs cc own ret fr lo) {x y : Int32} (hd : decode cc pc = .ok (.iadd, 1)) (hq : pc + 1 = q) (k : ca_T κ Z σ q lv (.int (x + y) :: st) X) : ca_T κ Z σ pc lv (.int y :: .int x :: st) X := by
  obtain ⟨Γ, cs', p, l, e, R, s, m, args, below, meth, c, nL⟩ := κ
  obtain ⟨rfl, hx, hb, hml, hown, hX, -⟩ := hC
  subst hq
  intro r hr H locs ls hP hS hl
  exact lv_iadd hx hb hd (k r hr H locs ls hP hS hl)
theorem ca_isub {κ : ca_K} {cs : List ca_I} {cc : ByteArray} {own : String} {ret : Option FieldType} {fr lo : Nat} {ρ : Type} {Z : ρ → State → Prop} {σ : ca_S} {pc q : Nat} {lv : List (Nat × Value)} {st : List Value} {X : Option ρ} (hC : ca_C κ cs cc own ret fr lo) {x y : Int32} (hd : decode cc pc = .ok (.isub, 1)) (hq : pc + 1 = q) (k : ca_T κ Z σ q lv (.int (x - y) :: st) X) : ca_T κ Z σ pc lv (.int y :: .int x :: st) X := by
  obtain ⟨Γ, cs', p, l, e, R, s, m, args, below, meth, c, nL⟩ := κ
  obtain ⟨rfl, hx, hb, hml, hown, hX, -⟩ := hC
  subst hq
  intro r hr H locs ls hP hS hl
  exact lv_isub hx hb hd (k r hr H locs ls hP hS hl)
theorem ca_imul {κ : ca_K} {cs : List ca_I} {cc : ByteArray} {own : String} {ret : Option FieldType} {fr lo : Nat} {ρ : Type} {Z : ρ → State → Prop} {σ : ca_S} {pc q : Nat} {lv : List (Nat × Value)} {st : List Value} {X : Option ρ} (hC : ca_C κ cs cc own ret fr lo) {x y : Int32} (hd : decode cc pc = .ok (.imul, 1)) (hq : pc + 1 = q) (k : ca_T κ Z σ q lv (.int (x * y) :: st) X) : ca_T κ Z σ pc lv (.int y :: .int x :: st) X := by
  obtain ⟨Γ, cs', p, l, e, R, s, m, args, below, meth, c, nL⟩ := κ
  obtain ⟨rfl, hx, hb, hml, hown, hX, -⟩ := hC
  subst hq
  intro r hr H locs ls hP hS hl
  exact lv_imul hx hb hd (k r hr H locs ls hP hS hl)
theorem ca_iand {κ : ca_K} {cs : List ca_I} {cc : ByteArray} {own : String} {ret : Option FieldType} {fr lo : Nat} {ρ : Type} {Z : ρ → State → Prop} {σ : ca_S} {pc q : Nat} {lv : List (Nat × Value)} {st : List Value} {X : Option ρ} (hC : ca_C κ cs cc own ret fr lo) {x y : Int32} (hd : decode cc pc = .ok (.iand, 1)) (hq : pc + 1 = q) (k : ca_T κ Z σ q lv (.int (x &&& y) :: st) X) : ca_T κ Z σ pc lv (.int y :: .int x :: st) X := by
  obtain ⟨Γ, cs', p, l, e, R, s, m, args, below, meth, c, nL⟩ := κ
  obtain ⟨rfl, hx, hb, hml, hown, hX, -⟩ := hC
  subst hq
  intro r hr H locs ls hP hS hl
  exact lv_iand hx hb hd (k r hr H locs ls hP hS hl)
theorem ca_ior {κ : ca_K} {cs : List ca_I} {cc : ByteArray} {own : String} {ret : Option FieldType} {fr lo : Nat} {ρ : Type} {Z : ρ → State → Prop} {σ : ca_S} {pc q : Nat} {lv : List (Nat × Value)} {st : List Value} {X : Option ρ} (hC : ca_C κ cs cc own ret fr lo) {x y : Int32} (hd : decode cc pc = .ok (.ior, 1)) (hq : pc + 1 = q) (k : ca_T κ Z σ q lv (.int (x ||| y) :: st) X) : ca_T κ Z σ pc lv (.int y :: .int x :: st) X := by
  obtain ⟨Γ, cs', p, l, e, R, s, m, args, below, meth, c, nL⟩ := κ
  obtain ⟨rfl, hx, hb, hml, hown, hX, -⟩ := hC
  subst hq
  intro r hr H locs ls hP hS hl
  exact lv_ior hx hb hd (k r hr H locs ls hP hS hl)
theorem ca_ixor {κ : ca_K} {cs : List ca_I} {cc : ByteArray} {own : String} {ret : Option FieldType} {fr lo : Nat} {ρ : Type} {Z : ρ → State → Prop} {σ : ca_S} {pc q : Nat} {lv : List (Nat × Value)} {st : List Value} {X : Option ρ} (hC : ca_C κ cs cc own ret fr lo) {x y : Int32} (hd : decode cc pc = .ok (.ixor, 1)) (hq : pc + 1 = q) (k : ca_T κ Z σ q lv (.int (x ^^^ y) :: st) X) : ca_T κ Z σ pc lv (.int y :: .int x :: st) X := by
  obtain ⟨Γ, cs', p, l, e, R, s, m, args, below, meth, c, nL⟩ := κ
  obtain ⟨rfl, hx, hb, hml, hown, hX, -⟩ := hC
  subst hq
  intro r hr H locs ls hP hS hl
  exact lv_ixor hx hb hd (k r hr H locs ls hP hS hl)
theorem ca_ishl {κ : ca_K} {cs : List ca_I} {cc : ByteArray} {own : String} {ret : Option FieldType} {fr lo : Nat} {ρ : Type} {Z : ρ → State → Prop} {σ : ca_S} {pc q : Nat} {lv : List (Nat × Value)} {st : List Value} {X : Option ρ} (hC : ca_C κ cs cc own ret fr lo) {x y : Int32} (hd : decode cc pc = .ok (.ishl, 1)) (hq : pc + 1 = q) (k : ca_T κ Z σ q lv (.int (x <<< (y &&& 31)) :: st) X) : ca_T κ Z σ pc lv (.int y :: .int x :: st) X := by
  obtain ⟨Γ, cs', p, l, e, R, s, m, args, below, meth, c, nL⟩ := κ
  obtain ⟨rfl, hx, hb, hml, hown, hX, -⟩ := hC
  subst hq
  intro r hr H locs ls hP hS hl
  exact lv_ishl hx hb hd (k r hr H locs ls hP hS hl)
theorem ca_ishr {κ : ca_K} {cs : List ca_I} {cc : ByteArray} {own : String} {ret : Option FieldType} {fr lo : Nat} {ρ : Type} {Z : ρ → State → Prop} {σ : ca_S} {pc q : Nat} {lv : List (Nat × Value)} {st : List Value} {X : Option ρ} (hC : ca_C κ cs cc own ret fr lo) {x y : Int32} (hd : decode cc pc = .ok (.ishr, 1)) (hq : pc + 1 = q) (k : ca_T κ Z σ q lv (.int (x >>> (y &&& 31)) :: st) X) : ca_T κ Z σ pc lv (.int y :: .int x :: st) X := by
  obtain ⟨Γ, cs', p, l, e, R, s, m, args, below, meth, c, nL⟩ := κ
  obtain ⟨rfl, hx, hb, hml, hown, hX, -⟩ := hC
  subst hq
  intro r hr H locs ls hP hS hl
  exact lv_ishr hx hb hd (k r hr H locs ls hP hS hl)
theorem ca_iushr {κ : ca_K} {cs : List ca_I} {cc : ByteArray} {own : String} {ret : Option FieldType} {fr lo : Nat} {ρ : Type} {Z : ρ → State → Prop} {σ : ca_S} {pc q : Nat} {lv : List (Nat × Value)} {st : List Value} {X : Option ρ} (hC : ca_C κ cs cc own ret fr lo) {x y : Int32} (hd : decode cc pc = .ok (.iushr, 1)) (hq : pc + 1 = q) (k : ca_T κ Z σ q lv (.int (x.toUInt32 >>> (y.toUInt32 &&& Int32.toUInt32 31)).toInt32 :: st) X) : ca_T κ Z σ pc lv (.int y :: .int x :: st) X := by
  obtain ⟨Γ, cs', p, l, e, R, s, m, args, below, meth, c, nL⟩ := κ
  obtain ⟨rfl, hx, hb, hml, hown, hX, -⟩ := hC
  subst hq
  intro r hr H locs ls hP hS hl
  exact lv_iushr hx hb hd rfl (k r hr H locs ls hP hS hl)
theorem ca_ineg {κ : ca_K} {cs : List ca_I} {cc : ByteArray} {own : String} {ret : Option FieldType} {fr lo : Nat} {ρ : Type} {Z : ρ → State → Prop} {σ : ca_S} {pc q : Nat} {lv : List (Nat × Value)} {st : List Value} {X : Option ρ} (hC : ca_C κ cs cc own ret fr lo) {x : Int32} (hd : decode cc pc = .ok (.ineg, 1)) (hq : pc + 1 = q) (k : ca_T κ Z σ q lv (.int (-x) :: st) X) : ca_T κ Z σ pc lv (.int x :: st) X := by
  obtain ⟨Γ, cs', p, l, e, R, s, m, args, below, meth, c, nL⟩ := κ
  obtain ⟨rfl, hx, hb, hml, hown, hX, -⟩ := hC
  subst hq
  intro r hr H locs ls hP hS hl
  exact lv_ineg hx hb hd (k r hr H locs ls hP hS hl)
theorem ca_i2l {κ : ca_K} {cs : List ca_I} {cc : ByteArray} {own : String} {ret : Option FieldType} {fr lo : Nat} {ρ : Type} {Z : ρ → State → Prop} {σ : ca_S} {pc q : Nat} {lv : List (Nat × Value)} {st : List Value} {X : Option ρ} (hC : ca_C κ cs cc own ret fr lo) {x : Int32} (hd : decode cc pc = .ok (.i2l, 1)) (hq : pc + 1 = q) (k : ca_T κ Z σ q lv (.long x.toInt64 :: st) X) : ca_T κ Z σ pc lv (.int x :: st) X := by
  obtain ⟨Γ, cs', p, l, e, R, s, m, args, below, meth, c, nL⟩ := κ
  obtain ⟨rfl, hx, hb, hml, hown, hX, -⟩ := hC
  subst hq
  intro r hr H locs ls hP hS hl
  exact lv_i2l hx hb hd rfl (k r hr H locs ls hP hS hl)
theorem ca_l2i {κ : ca_K} {cs : List ca_I} {cc : ByteArray} {own : String} {ret : Option FieldType} {fr lo : Nat} {ρ : Type} {Z : ρ → State → Prop} {σ : ca_S} {pc q : Nat} {lv : List (Nat × Value)} {st : List Value} {X : Option ρ} (hC : ca_C κ cs cc own ret fr lo) {x : Int64} (hd : decode cc pc = .ok (.l2i, 1)) (hq : pc + 1 = q) (k : ca_T κ Z σ q lv (.int x.toInt32 :: st) X) : ca_T κ Z σ pc lv (.long x :: st) X := by
  obtain ⟨Γ, cs', p, l, e, R, s, m, args, below, meth, c, nL⟩ := κ
  obtain ⟨rfl, hx, hb, hml, hown, hX, -⟩ := hC
  subst hq
  intro r hr H locs ls hP hS hl
  exact lv_l2i hx hb hd rfl (k r hr H locs ls hP hS hl)
theorem ca_lmul {κ : ca_K} {cs : List ca_I} {cc : ByteArray} {own : String} {ret : Option FieldType} {fr lo : Nat} {ρ : Type} {Z : ρ → State → Prop} {σ : ca_S} {pc q : Nat} {lv : List (Nat × Value)} {st : List Value} {X : Option ρ} (hC : ca_C κ cs cc own ret fr lo) {x y : Int64} (hd : decode cc pc = .ok (.lmul, 1)) (hq : pc + 1 = q) (k : ca_T κ Z σ q lv (.long (x * y) :: st) X) : ca_T κ Z σ pc lv (.long y :: .long x :: st) X := by
  obtain ⟨Γ, cs', p, l, e, R, s, m, args, below, meth, c, nL⟩ := κ
  obtain ⟨rfl, hx, hb, hml, hown, hX, -⟩ := hC
  subst hq
  intro r hr H locs ls hP hS hl
  exact lv_lmul hx hb hd (k r hr H locs ls hP hS hl)
theorem ca_dup {κ : ca_K} {cs : List ca_I} {cc : ByteArray} {own : String} {ret : Option FieldType} {fr lo : Nat} {ρ : Type} {Z : ρ → State → Prop} {σ : ca_S} {pc q : Nat} {lv : List (Nat × Value)} {st : List Value} {X : Option ρ} (hC : ca_C κ cs cc own ret fr lo) {va : Value} (hd : decode cc pc = .ok (.dup, 1)) (hv : va.category = 1) (hq : pc + 1 = q) (k : ca_T κ Z σ q lv (va :: va :: st) X) : ca_T κ Z σ pc lv (va :: st) X := by
  obtain ⟨Γ, cs', p, l, e, R, s, m, args, below, meth, c, nL⟩ := κ
  obtain ⟨rfl, hx, hb, hml, hown, hX, -⟩ := hC
  subst hq
  intro r hr H locs ls hP hS hl
  exact lv_dup hx hb hd hv (k r hr H locs ls hP hS hl)
theorem ca_dup2 {κ : ca_K} {cs : List ca_I} {cc : ByteArray} {own : String} {ret : Option FieldType} {fr lo : Nat} {ρ : Type} {Z : ρ → State → Prop} {σ : ca_S} {pc q : Nat} {lv : List (Nat × Value)} {st : List Value} {X : Option ρ} (hC : ca_C κ cs cc own ret fr lo) {va vb : Value} (hd : decode cc pc = .ok (.dup2, 1)) (hv : va.category = 1) (hw : vb.category = 1) (hq : pc + 1 = q) (k : ca_T κ Z σ q lv (va :: vb :: va :: vb :: st) X) : ca_T κ Z σ pc lv (va :: vb :: st) X := by
  obtain ⟨Γ, cs', p, l, e, R, s, m, args, below, meth, c, nL⟩ := κ
  obtain ⟨rfl, hx, hb, hml, hown, hX, -⟩ := hC
  subst hq
  intro r hr H locs ls hP hS hl
  exact lv_dup2_11 hx hb hd hv hw (k r hr H locs ls hP hS hl)
theorem ca_ldc {κ : ca_K} {cs : List ca_I} {cc : ByteArray} {own : String} {ret : Option FieldType} {fr lo : Nat} {ρ : Type} {Z : ρ → State → Prop} {σ : ca_S} {pc q : Nat} {lv : List (Nat × Value)} {st : List Value} {X : Option ρ} (hC : ca_C κ cs cc own ret fr lo) {i : Nat} {v : Int32} (hw : ca_Yw (.constant own i v)) (hd : decode cc pc = .ok (.ldc i, 2)) (hq : pc + 2 = q) (k : ca_T κ Z σ q lv (.int v :: st) X) : ca_T κ Z σ pc lv (st) X := by
  obtain ⟨Γ, cs', p, l, e, R, s, m, args, below, meth, c, nL⟩ := κ
  obtain ⟨rfl, hx, hb, hml, hown, hX, -⟩ := hC
  subst hq
  intro r hr H locs ls hP hS hl
  exact lv_ldc hx hb hown (hw.use rfl hX.1) hd (k r hr H locs ls hP hS hl)
theorem ca_ldcw {κ : ca_K} {cs : List ca_I} {cc : ByteArray} {own : String} {ret : Option FieldType} {fr lo : Nat} {ρ : Type} {Z : ρ → State → Prop} {σ : ca_S} {pc q : Nat} {lv : List (Nat × Value)} {st : List Value} {X : Option ρ} (hC : ca_C κ cs cc own ret fr lo) {i : Nat} {v : Int32} (hw : ca_Yw (.constant own i v)) (hd : decode cc pc = .ok (.ldc_w i, 3)) (hq : pc + 3 = q) (k : ca_T κ Z σ q lv (.int v :: st) X) : ca_T κ Z σ pc lv (st) X := by
  obtain ⟨Γ, cs', p, l, e, R, s, m, args, below, meth, c, nL⟩ := κ
  obtain ⟨rfl, hx, hb, hml, hown, hX, -⟩ := hC
  subst hq
  intro r hr H locs ls hP hS hl
  exact lv_ldcw hx hb hown (hw.use rfl hX.1) hd (k r hr H locs ls hP hS hl)
theorem ca_ldc2 {κ : ca_K} {cs : List ca_I} {cc : ByteArray} {own : String} {ret : Option FieldType} {fr lo : Nat} {ρ : Type} {Z : ρ → State → Prop} {σ : ca_S} {pc q : Nat} {lv : List (Nat × Value)} {st : List Value} {X : Option ρ} (hC : ca_C κ cs cc own ret fr lo) {i : Nat} {v : Int64} (hw : ca_Yw (.constantLong own i v)) (hd : decode cc pc = .ok (.ldc2_w i, 3)) (hq : pc + 3 = q) (k : ca_T κ Z σ q lv (.long v :: st) X) : ca_T κ Z σ pc lv (st) X := by
  obtain ⟨Γ, cs', p, l, e, R, s, m, args, below, meth, c, nL⟩ := κ
  obtain ⟨rfl, hx, hb, hml, hown, hX, -⟩ := hC
  subst hq
  intro r hr H locs ls hP hS hl
  exact lv_ldc2 hx hb hown (hw.use rfl hX.1) hd (k r hr H locs ls hP hS hl)
theorem ca_goto {κ : ca_K} {cs : List ca_I} {cc : ByteArray} {own : String} {ret : Option FieldType} {fr lo : Nat} {ρ : Type} {Z : ρ → State → Prop} {σ : ca_S} {pc q : Nat} {lv : List (Nat × Value)} {st : List Value} {X : Option ρ} (hC : ca_C κ cs cc own ret fr lo) {off : Int} (hd : decode cc pc = .ok (.goto off, 3)) (hq : (pc : Int) + off = (q : Int)) (k : ca_T κ Z σ q lv st X) : ca_T κ Z σ pc lv st X := by
  obtain ⟨Γ, cs', p, l, e, R, s, m, args, below, meth, c, nL⟩ := κ
  obtain ⟨rfl, hx, hb, hml, hown, hX, -⟩ := hC
  intro r hr H locs ls hP hS hl
  exact lv_goto hx hb hd hq (k r hr H locs ls hP hS hl)
theorem ca_if_ne {κ : ca_K} {cs : List ca_I} {cc : ByteArray} {own : String} {ret : Option FieldType} {fr lo : Nat} {ρ : Type} {Z : ρ → State → Prop} {σ : ca_S} {pc q t : Nat} {lv : List (Nat × Value)} {st : List Value} {X Y : Option ρ} (hC : ca_C κ cs cc own ret fr lo) {x : Int32} {off : Int} (hd : decode cc pc = .ok (.ifCond .ne off, 3)) (ht : (pc : Int) + off = (t : Int)) (hq : pc + 3 = q) (kt : ¬ (x = 0) → ca_T κ Z σ t lv st Y) (kf : (x = 0) → ca_T κ Z σ q lv st X) : ca_T κ Z σ pc lv (.int x :: st) (if (x = 0) then X else Y) := by
  obtain ⟨Γ, cs', p, l, e, R, s, m, args, below, meth, c, nL⟩ := κ
  obtain ⟨rfl, hx, hb, hml, hown, hX, -⟩ := hC
  subst hq
  intro r hr H locs ls hP hS hl
  refine lv_if_ne hx hb hd ht (fun h => ?_) (fun h => ?_)
  · rw [if_neg h] at hr
    exact kt h r hr H locs ls hP hS hl
  · rw [if_pos h] at hr
    exact kf h r hr H locs ls hP hS hl
theorem ca_icmp_ne {κ : ca_K} {cs : List ca_I} {cc : ByteArray} {own : String} {ret : Option FieldType} {fr lo : Nat} {ρ : Type} {Z : ρ → State → Prop} {σ : ca_S} {pc q t : Nat} {lv : List (Nat × Value)} {st : List Value} {X Y : Option ρ} (hC : ca_C κ cs cc own ret fr lo) {x y : Int32} {off : Int} (hd : decode cc pc = .ok (.if_icmp .ne off, 3)) (ht : (pc : Int) + off = (t : Int)) (hq : pc + 3 = q) (kt : ¬ (x = y) → ca_T κ Z σ t lv st Y) (kf : (x = y) → ca_T κ Z σ q lv st X) : ca_T κ Z σ pc lv (.int y :: .int x :: st) (if (x = y) then X else Y) := by
  obtain ⟨Γ, cs', p, l, e, R, s, m, args, below, meth, c, nL⟩ := κ
  obtain ⟨rfl, hx, hb, hml, hown, hX, -⟩ := hC
  subst hq
  intro r hr H locs ls hP hS hl
  refine lv_icmp_ne hx hb hd ht (fun h => ?_) (fun h => ?_)
  · rw [if_neg h] at hr
    exact kt h r hr H locs ls hP hS hl
  · rw [if_pos h] at hr
    exact kf h r hr H locs ls hP hS hl
theorem ca_if_eq {κ : ca_K} {cs : List ca_I} {cc : ByteArray} {own : String} {ret : Option FieldType} {fr lo : Nat} {ρ : Type} {Z : ρ → State → Prop} {σ : ca_S} {pc q t : Nat} {lv : List (Nat × Value)} {st : List Value} {X Y : Option ρ} (hC : ca_C κ cs cc own ret fr lo) {x : Int32} {off : Int} (hd : decode cc pc = .ok (.ifCond .eq off, 3)) (ht : (pc : Int) + off = (t : Int)) (hq : pc + 3 = q) (kt : (x = 0) → ca_T κ Z σ t lv st X) (kf : ¬ (x = 0) → ca_T κ Z σ q lv st Y) : ca_T κ Z σ pc lv (.int x :: st) (if (x = 0) then X else Y) := by
  obtain ⟨Γ, cs', p, l, e, R, s, m, args, below, meth, c, nL⟩ := κ
  obtain ⟨rfl, hx, hb, hml, hown, hX, -⟩ := hC
  subst hq
  intro r hr H locs ls hP hS hl
  refine lv_if_eq hx hb hd ht (fun h => ?_) (fun h => ?_)
  · rw [if_pos h] at hr
    exact kt h r hr H locs ls hP hS hl
  · rw [if_neg h] at hr
    exact kf h r hr H locs ls hP hS hl
theorem ca_if_lt {κ : ca_K} {cs : List ca_I} {cc : ByteArray} {own : String} {ret : Option FieldType} {fr lo : Nat} {ρ : Type} {Z : ρ → State → Prop} {σ : ca_S} {pc q t : Nat} {lv : List (Nat × Value)} {st : List Value} {X Y : Option ρ} (hC : ca_C κ cs cc own ret fr lo) {x : Int32} {off : Int} (hd : decode cc pc = .ok (.ifCond .lt off, 3)) (ht : (pc : Int) + off = (t : Int)) (hq : pc + 3 = q) (kt : (x < 0) → ca_T κ Z σ t lv st X) (kf : ¬ (x < 0) → ca_T κ Z σ q lv st Y) : ca_T κ Z σ pc lv (.int x :: st) (if (x < 0) then X else Y) := by
  obtain ⟨Γ, cs', p, l, e, R, s, m, args, below, meth, c, nL⟩ := κ
  obtain ⟨rfl, hx, hb, hml, hown, hX, -⟩ := hC
  subst hq
  intro r hr H locs ls hP hS hl
  refine lv_if_lt hx hb hd ht (fun h => ?_) (fun h => ?_)
  · rw [if_pos h] at hr
    exact kt h r hr H locs ls hP hS hl
  · rw [if_neg h] at hr
    exact kf h r hr H locs ls hP hS hl
theorem ca_if_ge {κ : ca_K} {cs : List ca_I} {cc : ByteArray} {own : String} {ret : Option FieldType} {fr lo : Nat} {ρ : Type} {Z : ρ → State → Prop} {σ : ca_S} {pc q t : Nat} {lv : List (Nat × Value)} {st : List Value} {X Y : Option ρ} (hC : ca_C κ cs cc own ret fr lo) {x : Int32} {off : Int} (hd : decode cc pc = .ok (.ifCond .ge off, 3)) (ht : (pc : Int) + off = (t : Int)) (hq : pc + 3 = q) (kt : (0 ≤ x) → ca_T κ Z σ t lv st X) (kf : ¬ (0 ≤ x) → ca_T κ Z σ q lv st Y) : ca_T κ Z σ pc lv (.int x :: st) (if (0 ≤ x) then X else Y) := by
  obtain ⟨Γ, cs', p, l, e, R, s, m, args, below, meth, c, nL⟩ := κ
  obtain ⟨rfl, hx, hb, hml, hown, hX, -⟩ := hC
  subst hq
  intro r hr H locs ls hP hS hl
  refine lv_if_ge hx hb hd ht (fun h => ?_) (fun h => ?_)
  · rw [if_pos h] at hr
    exact kt h r hr H locs ls hP hS hl
  · rw [if_neg h] at hr
    exact kf h r hr H locs ls hP hS hl
theorem ca_if_gt {κ : ca_K} {cs : List ca_I} {cc : ByteArray} {own : String} {ret : Option FieldType} {fr lo : Nat} {ρ : Type} {Z : ρ → State → Prop} {σ : ca_S} {pc q t : Nat} {lv : List (Nat × Value)} {st : List Value} {X Y : Option ρ} (hC : ca_C κ cs cc own ret fr lo) {x : Int32} {off : Int} (hd : decode cc pc = .ok (.ifCond .gt off, 3)) (ht : (pc : Int) + off = (t : Int)) (hq : pc + 3 = q) (kt : (0 < x) → ca_T κ Z σ t lv st X) (kf : ¬ (0 < x) → ca_T κ Z σ q lv st Y) : ca_T κ Z σ pc lv (.int x :: st) (if (0 < x) then X else Y) := by
  obtain ⟨Γ, cs', p, l, e, R, s, m, args, below, meth, c, nL⟩ := κ
  obtain ⟨rfl, hx, hb, hml, hown, hX, -⟩ := hC
  subst hq
  intro r hr H locs ls hP hS hl
  refine lv_if_gt hx hb hd ht (fun h => ?_) (fun h => ?_)
  · rw [if_pos h] at hr
    exact kt h r hr H locs ls hP hS hl
  · rw [if_neg h] at hr
    exact kf h r hr H locs ls hP hS hl
theorem ca_if_le {κ : ca_K} {cs : List ca_I} {cc : ByteArray} {own : String} {ret : Option FieldType} {fr lo : Nat} {ρ : Type} {Z : ρ → State → Prop} {σ : ca_S} {pc q t : Nat} {lv : List (Nat × Value)} {st : List Value} {X Y : Option ρ} (hC : ca_C κ cs cc own ret fr lo) {x : Int32} {off : Int} (hd : decode cc pc = .ok (.ifCond .le off, 3)) (ht : (pc : Int) + off = (t : Int)) (hq : pc + 3 = q) (kt : (x ≤ 0) → ca_T κ Z σ t lv st X) (kf : ¬ (x ≤ 0) → ca_T κ Z σ q lv st Y) : ca_T κ Z σ pc lv (.int x :: st) (if (x ≤ 0) then X else Y) := by
  obtain ⟨Γ, cs', p, l, e, R, s, m, args, below, meth, c, nL⟩ := κ
  obtain ⟨rfl, hx, hb, hml, hown, hX, -⟩ := hC
  subst hq
  intro r hr H locs ls hP hS hl
  refine lv_if_le hx hb hd ht (fun h => ?_) (fun h => ?_)
  · rw [if_pos h] at hr
    exact kt h r hr H locs ls hP hS hl
  · rw [if_neg h] at hr
    exact kf h r hr H locs ls hP hS hl
theorem ca_icmp_eq {κ : ca_K} {cs : List ca_I} {cc : ByteArray} {own : String} {ret : Option FieldType} {fr lo : Nat} {ρ : Type} {Z : ρ → State → Prop} {σ : ca_S} {pc q t : Nat} {lv : List (Nat × Value)} {st : List Value} {X Y : Option ρ} (hC : ca_C κ cs cc own ret fr lo) {x y : Int32} {off : Int} (hd : decode cc pc = .ok (.if_icmp .eq off, 3)) (ht : (pc : Int) + off = (t : Int)) (hq : pc + 3 = q) (kt : (x = y) → ca_T κ Z σ t lv st X) (kf : ¬ (x = y) → ca_T κ Z σ q lv st Y) : ca_T κ Z σ pc lv (.int y :: .int x :: st) (if (x = y) then X else Y) := by
  obtain ⟨Γ, cs', p, l, e, R, s, m, args, below, meth, c, nL⟩ := κ
  obtain ⟨rfl, hx, hb, hml, hown, hX, -⟩ := hC
  subst hq
  intro r hr H locs ls hP hS hl
  refine lv_icmp_eq hx hb hd ht (fun h => ?_) (fun h => ?_)
  · rw [if_pos h] at hr
    exact kt h r hr H locs ls hP hS hl
  · rw [if_neg h] at hr
    exact kf h r hr H locs ls hP hS hl
theorem ca_icmp_lt {κ : ca_K} {cs : List ca_I} {cc : ByteArray} {own : String} {ret : Option FieldType} {fr lo : Nat} {ρ : Type} {Z : ρ → State → Prop} {σ : ca_S} {pc q t : Nat} {lv : List (Nat × Value)} {st : List Value} {X Y : Option ρ} (hC : ca_C κ cs cc own ret fr lo) {x y : Int32} {off : Int} (hd : decode cc pc = .ok (.if_icmp .lt off, 3)) (ht : (pc : Int) + off = (t : Int)) (hq : pc + 3 = q) (kt : (x < y) → ca_T κ Z σ t lv st X) (kf : ¬ (x < y) → ca_T κ Z σ q lv st Y) : ca_T κ Z σ pc lv (.int y :: .int x :: st) (if (x < y) then X else Y) := by
  obtain ⟨Γ, cs', p, l, e, R, s, m, args, below, meth, c, nL⟩ := κ
  obtain ⟨rfl, hx, hb, hml, hown, hX, -⟩ := hC
  subst hq
  intro r hr H locs ls hP hS hl
  refine lv_icmp_lt hx hb hd ht (fun h => ?_) (fun h => ?_)
  · rw [if_pos h] at hr
    exact kt h r hr H locs ls hP hS hl
  · rw [if_neg h] at hr
    exact kf h r hr H locs ls hP hS hl
theorem ca_icmp_ge {κ : ca_K} {cs : List ca_I} {cc : ByteArray} {own : String} {ret : Option FieldType} {fr lo : Nat} {ρ : Type} {Z : ρ → State → Prop} {σ : ca_S} {pc q t : Nat} {lv : List (Nat × Value)} {st : List Value} {X Y : Option ρ} (hC : ca_C κ cs cc own ret fr lo) {x y : Int32} {off : Int} (hd : decode cc pc = .ok (.if_icmp .ge off, 3)) (ht : (pc : Int) + off = (t : Int)) (hq : pc + 3 = q) (kt : (y ≤ x) → ca_T κ Z σ t lv st X) (kf : ¬ (y ≤ x) → ca_T κ Z σ q lv st Y) : ca_T κ Z σ pc lv (.int y :: .int x :: st) (if (y ≤ x) then X else Y) := by
  obtain ⟨Γ, cs', p, l, e, R, s, m, args, below, meth, c, nL⟩ := κ
  obtain ⟨rfl, hx, hb, hml, hown, hX, -⟩ := hC
  subst hq
  intro r hr H locs ls hP hS hl
  refine lv_icmp_ge hx hb hd ht (fun h => ?_) (fun h => ?_)
  · rw [if_pos h] at hr
    exact kt h r hr H locs ls hP hS hl
  · rw [if_neg h] at hr
    exact kf h r hr H locs ls hP hS hl
theorem ca_icmp_gt {κ : ca_K} {cs : List ca_I} {cc : ByteArray} {own : String} {ret : Option FieldType} {fr lo : Nat} {ρ : Type} {Z : ρ → State → Prop} {σ : ca_S} {pc q t : Nat} {lv : List (Nat × Value)} {st : List Value} {X Y : Option ρ} (hC : ca_C κ cs cc own ret fr lo) {x y : Int32} {off : Int} (hd : decode cc pc = .ok (.if_icmp .gt off, 3)) (ht : (pc : Int) + off = (t : Int)) (hq : pc + 3 = q) (kt : (y < x) → ca_T κ Z σ t lv st X) (kf : ¬ (y < x) → ca_T κ Z σ q lv st Y) : ca_T κ Z σ pc lv (.int y :: .int x :: st) (if (y < x) then X else Y) := by
  obtain ⟨Γ, cs', p, l, e, R, s, m, args, below, meth, c, nL⟩ := κ
  obtain ⟨rfl, hx, hb, hml, hown, hX, -⟩ := hC
  subst hq
  intro r hr H locs ls hP hS hl
  refine lv_icmp_gt hx hb hd ht (fun h => ?_) (fun h => ?_)
  · rw [if_pos h] at hr
    exact kt h r hr H locs ls hP hS hl
  · rw [if_neg h] at hr
    exact kf h r hr H locs ls hP hS hl
theorem ca_icmp_le {κ : ca_K} {cs : List ca_I} {cc : ByteArray} {own : String} {ret : Option FieldType} {fr lo : Nat} {ρ : Type} {Z : ρ → State → Prop} {σ : ca_S} {pc q t : Nat} {lv : List (Nat × Value)} {st : List Value} {X Y : Option ρ} (hC : ca_C κ cs cc own ret fr lo) {x y : Int32} {off : Int} (hd : decode cc pc = .ok (.if_icmp .le off, 3)) (ht : (pc : Int) + off = (t : Int)) (hq : pc + 3 = q) (kt : (x ≤ y) → ca_T κ Z σ t lv st X) (kf : ¬ (x ≤ y) → ca_T κ Z σ q lv st Y) : ca_T κ Z σ pc lv (.int y :: .int x :: st) (if (x ≤ y) then X else Y) := by
  obtain ⟨Γ, cs', p, l, e, R, s, m, args, below, meth, c, nL⟩ := κ
  obtain ⟨rfl, hx, hb, hml, hown, hX, -⟩ := hC
  subst hq
  intro r hr H locs ls hP hS hl
  refine lv_icmp_le hx hb hd ht (fun h => ?_) (fun h => ?_)
  · rw [if_pos h] at hr
    exact kt h r hr H locs ls hP hS hl
  · rw [if_neg h] at hr
    exact kf h r hr H locs ls hP hS hl
theorem ca_idiv {κ : ca_K} {cs : List ca_I} {cc : ByteArray} {own : String} {ret : Option FieldType} {fr lo : Nat} {ρ : Type} {Z : ρ → State → Prop} {σ : ca_S} {pc q : Nat} {lv : List (Nat × Value)} {st : List Value} {X : Option ρ} (hC : ca_C κ cs cc own ret fr lo) {x y : Int32} (hd : decode cc pc = .ok (.idiv, 1)) (hq : pc + 1 = q) (k : ¬ y = 0 → ca_T κ Z σ q lv (.int (x / y) :: st) X) : ca_T κ Z σ pc lv (.int y :: .int x :: st) (if y = 0 then none else X) := by
  obtain ⟨Γ, cs', p, l, e, R, s, m, args, below, meth, c, nL⟩ := κ
  obtain ⟨rfl, hx, hb, hml, hown, hX, -⟩ := hC
  subst hq
  intro r hr H locs ls hP hS hl
  by_cases h : y = 0
  · rw [if_pos h] at hr; cases hr
  · rw [if_neg h] at hr
    exact lv_idiv hx hb hd h (k h r hr H locs ls hP hS hl)
theorem ca_irem {κ : ca_K} {cs : List ca_I} {cc : ByteArray} {own : String} {ret : Option FieldType} {fr lo : Nat} {ρ : Type} {Z : ρ → State → Prop} {σ : ca_S} {pc q : Nat} {lv : List (Nat × Value)} {st : List Value} {X : Option ρ} (hC : ca_C κ cs cc own ret fr lo) {x y : Int32} (hd : decode cc pc = .ok (.irem, 1)) (hq : pc + 1 = q) (k : ¬ y = 0 → ca_T κ Z σ q lv (.int (x - x / y * y) :: st) X) : ca_T κ Z σ pc lv (.int y :: .int x :: st) (if y = 0 then none else X) := by
  obtain ⟨Γ, cs', p, l, e, R, s, m, args, below, meth, c, nL⟩ := κ
  obtain ⟨rfl, hx, hb, hml, hown, hX, -⟩ := hC
  subst hq
  intro r hr H locs ls hP hS hl
  by_cases h : y = 0
  · rw [if_pos h] at hr; cases hr
  · rw [if_neg h] at hr
    exact lv_irem hx hb hd h (k h r hr H locs ls hP hS hl)
theorem ca_lrem {κ : ca_K} {cs : List ca_I} {cc : ByteArray} {own : String} {ret : Option FieldType} {fr lo : Nat} {ρ : Type} {Z : ρ → State → Prop} {σ : ca_S} {pc q : Nat} {lv : List (Nat × Value)} {st : List Value} {X : Option ρ} (hC : ca_C κ cs cc own ret fr lo) {x y : Int64} (hd : decode cc pc = .ok (.lrem, 1)) (hq : pc + 1 = q) (k : ¬ y = 0 → ca_T κ Z σ q lv (.long (x - x / y * y) :: st) X) : ca_T κ Z σ pc lv (.long y :: .long x :: st) (if y = 0 then none else X) := by
  obtain ⟨Γ, cs', p, l, e, R, s, m, args, below, meth, c, nL⟩ := κ
  obtain ⟨rfl, hx, hb, hml, hown, hX, -⟩ := hC
  subst hq
  intro r hr H locs ls hP hS hl
  by_cases h : y = 0
  · rw [if_pos h] at hr; cases hr
  · rw [if_neg h] at hr
    exact lv_lrem hx hb hd h (k h r hr H locs ls hP hS hl)
-- ===== the heap's rows =====
theorem ca_lcmp {κ : ca_K} {cs : List ca_I} {cc : ByteArray} {own : String} {ret : Option FieldType} {fr lo : Nat} {ρ : Type} {Z : ρ → State → Prop} {σ : ca_S} {pc q t u : Nat} {lv : List (Nat × Value)} {st : List Value} {X Y : Option ρ} (hC : ca_C κ cs cc own ret fr lo) {x y : Int64} {off : Int} (hd : decode cc pc = .ok (.lcmp, 1)) (hq : pc + 1 = q) (hd2 : decode cc q = .ok (.ifCond .ne off, 3)) (ht : (q : Int) + off = (t : Int)) (hu : q + 3 = u) (kt : ¬ x = y → ca_T κ Z σ t lv st Y) (kf : x = y → ca_T κ Z σ u lv st X) : ca_T κ Z σ pc lv (.long y :: .long x :: st) (if x = y then X else Y) := by
  obtain ⟨Γ, cs', p, l, e, R, s, m, args, below, meth, c, nL⟩ := κ
  obtain ⟨rfl, hx, hb, hml, hown, hX, -⟩ := hC
  subst hq
  subst hu
  intro r hr H locs ls hP hS hl
  refine W.lcmp hx hb hd ?_
  refine lv_if_ne hx hb hd2 ht (fun h => ?_) (fun h => ?_)
  · have hn : ¬ x = y := by
      intro e
      subst e
      exact h (by simp [lg_cmp])
    rw [if_neg hn] at hr
    exact kt hn r hr H locs ls hP hS hl
  · have hn : x = y := by
      by_cases e : x = y
      · exact e
      · exfalso
        unfold lg_cmp at h
        split at h
        · exact absurd h (by decide)
        · exact absurd h (by decide)
    rw [if_pos hn] at hr
    exact kf hn r hr H locs ls hP hS hl
theorem ca_get {κ : ca_K} {cs : List ca_I} {cc : ByteArray} {own : String} {ret : Option FieldType} {fr lo : Nat} {ρ : Type} {Z : ρ → State → Prop} {σ : ca_S} {pc q : Nat} {lv : List (Nat × Value)} {st : List Value} {X : Option ρ} (hC : ca_C κ cs cc own ret fr lo) {C ref : String} {T : u_T} {N ci i j : Nat} {c0 : ca_I} {v : Value} (hin : ∀ w ∈ u_ws C T N, w ∈ lw_tbl) (hcl : vwCl[ci]? = some (C, T, N)) (hlay : ∀ k, k < N → ca_ok (u_lay C T k) = true) (hm : c0 ∈ cs) (ho : ca_ob c0.1 = some (ci, N)) (hj : j < N) (hr0 : (T j).1 = ref) (hw : ca_Yw (.fieldLink own i ref (T j).2.1 (T j).2.2.1) ∨ ∃ host, ca_Yw (.fieldLinkNest own i ref (T j).2.1 (T j).2.2.1 host)) (hv : ca_fv κ.1 σ c0 j = v) (hd : decode cc pc = .ok (.getfield i, 3)) (hq : pc + 3 = q) (k : ca_T κ Z σ q lv (v :: st) X) : ca_T κ Z σ pc lv (.ref (ca_a κ c0) :: st) X := by
  obtain ⟨Γ, cs', p, l, e, R, s, m, args, below, meth, c, nL⟩ := κ
  obtain ⟨rfl, hx, hb, hml, hown, hX, -⟩ := hC
  subst hq
  intro r hr H locs ls hP hS hl
  obtain ⟨k0, hk0, -⟩ := ca_lay_get (Γ := Γ) σ hm
  rw [ca_E_ob ho] at hk0
  have hts : ∀ w ∈ u_ws C T N, w.before args s = true := fun w h => by
    obtain ⟨k1, h1, h2⟩ := List.mem_map.mp h
    have hk1 := List.mem_range.mp h1
    have ho : (u_lay C T k1).onTables = true := by
      unfold u_lay
      split <;> rfl
    rw [← h2]
    exact va_Nw.use ho (hX.1 _ (hin _ (by rw [h2]; exact h)) (hlay k1 hk1))
  have hvv : ((List.range N).map (ca_fv Γ σ c0))[j]? = some v := by
    rw [List.getElem?_map, List.getElem?_range hj]
    exact congrArg some hv
  rcases hw with hw | ⟨host, hw⟩
  · exact va_get hx hb hts (fun w h => h) hown hX.2.1 hP k0 hk0 hcl j hj (hw.use rfl hX.1) (fun x h => by rw [← hr0]; exact h) hvv hd (k r hr H locs ls hP hS hl)
  · exact va_getN hx hb hts (fun w h => h) hown hX.2.1 hP k0 hk0 hcl j hj (hw.use rfl hX.1) (fun x h => by rw [← hr0]; exact h) hvv hd (k r hr H locs ls hP hS hl)
/-- a number is put into a field, the cell's picture behind it given -/
theorem ca_put0 {κ : ca_K} {cs : List ca_I} {cc : ByteArray} {own : String} {ret : Option FieldType} {fr lo : Nat} {ρ : Type} {Z : ρ → State → Prop} {σ σ' : ca_S} {pc q : Nat} {lv : List (Nat × Value)} {st : List Value} {X : Option ρ} (hC : ca_C κ cs cc own ret fr lo) {C ref : String} {T : u_T} {N ci i j : Nat} {c0 : ca_I} {v : Value} {ty0 : Nat → FieldType} (hin : ∀ w ∈ u_ws C T N, w ∈ lw_tbl) (hty : ∀ k, k < N → parseFieldDescriptor (T k).2.2.1 = some (ty0 k)) (hnm : ∀ a, a < N → ∀ b, b < N → a ≠ b → (T a).2.1 ≠ (T b).2.1) (hcl : vwCl[ci]? = some (C, T, N)) (hlay : ∀ k, k < N → ca_ok (u_lay C T k) = true) (hm : c0 ∈ cs) (ho : ca_ob c0.1 = some (ci, N)) (hj : j < N) (hr0 : (T j).1 = ref) (hf : (T j).2.2.2 = false) (hw : ca_Yw (.fieldLink own i ref (T j).2.1 (T j).2.2.1) ∨ ∃ host, ca_Yw (.fieldLinkNest own i ref (T j).2.1 (T j).2.2.1 host)) (hn : narrow (ty0 j) v = v) (hfit : fits (ty0 j) v = true) (hE : ca_E κ.1 σ' c0 = .inr (ci, ((List.range N).map (ca_fv κ.1 σ c0)).set j v)) (hne : ∀ d ∈ cs, d ≠ c0 → ca_E κ.1 σ' d = ca_E κ.1 σ d) (hd : decode cc pc = .ok (.putfield i, 3)) (hq : pc + 3 = q) (k : ca_T κ Z σ' q lv st X) : ca_T κ Z σ pc lv (v :: .ref (ca_a κ c0) :: st) X := by
  obtain ⟨Γ, cs', p, l, e, R, s, m, args, below, meth, c, nL⟩ := κ
  obtain ⟨rfl, hx, hb, hml, hown, hX, -⟩ := hC
  subst hq
  intro r hr H locs ls hP hS hl
  obtain ⟨k0, hk0, hk1⟩ := ca_lay_get (Γ := Γ) σ hm
  have hset := ca_lay_set (Γ := Γ) (σ := σ) (σ' := σ') hX.2.2.1.1 hk1 hne
  have hE' : ca_E Γ σ' c0 = .inr (ci, ((List.range N).map (ca_fv Γ σ c0)).set j v) := hE
  rw [ca_E_ob ho] at hk0
  rw [hE'] at hset
  have hts : ∀ w ∈ u_ws C T N, w.before args s = true := fun w h => by
    obtain ⟨k1, h1, h2⟩ := List.mem_map.mp h
    have hk1 := List.mem_range.mp h1
    have ho : (u_lay C T k1).onTables = true := by
      unfold u_lay
      split <;> rfl
    rw [← h2]
    exact va_Nw.use ho (hX.1 _ (hin _ (by rw [h2]; exact h)) (hlay k1 hk1))
  have hD := ca_lay_D (Γ := Γ) σ hX.2.2.1.1 hX.2.2.1.2
  rcases hw with hw | ⟨host, hw⟩
  · refine va_put hx hb hts (fun w h => h) ty0 hty hnm hown hX.2.1 hP hD hS k0 hk0 hcl j hj (hw.use rfl hX.1) (fun x h => by rw [← hr0]; exact h) hf (hty j hj) hn hfit (by simp; exact hj) hd (fun H1 locs1 hP1 hD1 hS1 => ?_)
    exact k r hr H1 locs1 ls (hset ▸ hP1) hS1 hl
  · refine va_putN hx hb hts (fun w h => h) ty0 hty hnm hown hX.2.1 hP hD hS k0 hk0 hcl j hj (hw.use rfl hX.1) (fun x h => by rw [← hr0]; exact h) hf (hty j hj) hn hfit (by simp; exact hj) hd (fun H1 locs1 hP1 hD1 hS1 => ?_)
    exact k r hr H1 locs1 ls (hset ▸ hP1) hS1 hl
theorem ca_put {κ : ca_K} {cs : List ca_I} {cc : ByteArray} {own : String} {ret : Option FieldType} {fr lo : Nat} {ρ : Type} {Z : ρ → State → Prop} {σ : ca_S} {pc q : Nat} {lv : List (Nat × Value)} {st : List Value} {X : Option ρ} (hC : ca_C κ cs cc own ret fr lo) {C ref : String} {T : u_T} {N ci i j : Nat} {c0 : ca_I} {x : Int32} {ty0 : Nat → FieldType} (hin : ∀ w ∈ u_ws C T N, w ∈ lw_tbl) (hty : ∀ k, k < N → parseFieldDescriptor (T k).2.2.1 = some (ty0 k)) (hnm : ∀ a, a < N → ∀ b, b < N → a ≠ b → (T a).2.1 ≠ (T b).2.1) (hcl : vwCl[ci]? = some (C, T, N)) (hlay : ∀ k, k < N → ca_ok (u_lay C T k) = true) (hm : c0 ∈ cs) (ho : ca_ob c0.1 = some (ci, N)) (hj : j < N) (hr0 : (T j).1 = ref) (hf : (T j).2.2.2 = false) (hw : ca_Yw (.fieldLink own i ref (T j).2.1 (T j).2.2.1) ∨ ∃ host, ca_Yw (.fieldLinkNest own i ref (T j).2.1 (T j).2.2.1 host)) (hrf : ca_rf c0 j = none) (hlg : ca_lg c0 j = false) (hn : narrow (ty0 j) (.int x) = .int x) (hfit : fits (ty0 j) (.int x) = true) (hd : decode cc pc = .ok (.putfield i, 3)) (hq : pc + 3 = q) (k : ca_T κ Z (ca_st σ c0 j x) q lv st X) : ca_T κ Z σ pc lv (.int x :: .ref (ca_a κ c0) :: st) X :=
  ca_put0 hC hin hty hnm hcl hlay hm ho hj hr0 hf hw hn hfit (ca_E_put ho hrf hlg) (fun _ _ h => ca_E_ne h) hd hq k
theorem ca_ildQ {κ : ca_K} {cs : List ca_I} {cc : ByteArray} {own : String} {ret : Option FieldType} {fr lo : Nat} {ρ : Type} {Z : ρ → State → Prop} {σ : ca_S} {pc q : Nat} {lv : List (Nat × Value)} {st : List Value} {X : Option ρ} (hC : ca_C κ cs cc own ret fr lo) {c0 : ca_I} {n : Nat} {x : Int32} (hm : c0 ∈ cs) (h1 : ca_ob c0.1 = none) (h2 : ca_ra c0.1 = none) (h3 : ca_ia c0 = (0, n)) (hd : decode cc pc = .ok (.iaload, 1)) (hq : pc + 1 = q) (k : ca_in x n = true → ca_T κ Z σ q lv (.int (σ.1 c0 x.toNatClampNeg) :: st) X) : ca_T κ Z σ pc lv (.int x :: .ref (ca_a κ c0) :: st) (ca_gd (ca_in x n) X) := by
  obtain ⟨Γ, cs', p, l, e, R, s, m, args, below, meth, c, nL⟩ := κ
  obtain ⟨rfl, hx, hb, hml, hown, hX, -⟩ := hC
  subst hq
  intro r hr H locs ls hP hS hl
  cases hg : ca_in x n with
  | false => rw [hg] at hr; cases hr
  | true =>
    rw [hg] at hr
    obtain ⟨k0, hk0, -⟩ := ca_lay_get (Γ := Γ) σ hm
    rw [ca_E_ia h1 h2, h3] at hk0
    exact va_iald hx hb hX.2.1 hP k0 0 hk0 rfl (ca_in_vp hg) hd (k hg r hr H locs ls hP hS hl)
theorem ca_zldQ {κ : ca_K} {cs : List ca_I} {cc : ByteArray} {own : String} {ret : Option FieldType} {fr lo : Nat} {ρ : Type} {Z : ρ → State → Prop} {σ : ca_S} {pc q : Nat} {lv : List (Nat × Value)} {st : List Value} {X : Option ρ} (hC : ca_C κ cs cc own ret fr lo) {c0 : ca_I} {n : Nat} {x : Int32} (hm : c0 ∈ cs) (h1 : ca_ob c0.1 = none) (h2 : ca_ra c0.1 = none) (h3 : ca_ia c0 = (1, n)) (hd : decode cc pc = .ok (.baload, 1)) (hq : pc + 1 = q) (k : ca_in x n = true → ca_T κ Z σ q lv (.int (σ.1 c0 x.toNatClampNeg) :: st) X) : ca_T κ Z σ pc lv (.int x :: .ref (ca_a κ c0) :: st) (ca_gd (ca_in x n) X) := by
  obtain ⟨Γ, cs', p, l, e, R, s, m, args, below, meth, c, nL⟩ := κ
  obtain ⟨rfl, hx, hb, hml, hown, hX, -⟩ := hC
  subst hq
  intro r hr H locs ls hP hS hl
  cases hg : ca_in x n with
  | false => rw [hg] at hr; cases hr
  | true =>
    rw [hg] at hr
    obtain ⟨k0, hk0, -⟩ := ca_lay_get (Γ := Γ) σ hm
    rw [ca_E_ia h1 h2, h3] at hk0
    exact va_zald hx hb hX.2.1 hP k0 1 hk0 rfl (ca_in_vp hg) hd (k hg r hr H locs ls hP hS hl)
theorem ca_istQ {κ : ca_K} {cs : List ca_I} {cc : ByteArray} {own : String} {ret : Option FieldType} {fr lo : Nat} {ρ : Type} {Z : ρ → State → Prop} {σ : ca_S} {pc q : Nat} {lv : List (Nat × Value)} {st : List Value} {X : Option ρ} (hC : ca_C κ cs cc own ret fr lo) {c0 : ca_I} {n : Nat} {x v : Int32} (hm : c0 ∈ cs) (h1 : ca_ob c0.1 = none) (h2 : ca_ra c0.1 = none) (h3 : ca_ia c0 = (0, n)) (hd : decode cc pc = .ok (.iastore, 1)) (hq : pc + 1 = q) (k : ca_in x n = true → ca_T κ Z (ca_st σ c0 x.toNatClampNeg v) q lv st X) : ca_T κ Z σ pc lv (.int v :: .int x :: .ref (ca_a κ c0) :: st) (ca_gd (ca_in x n) X) := by
  obtain ⟨Γ, cs', p, l, e, R, s, m, args, below, meth, c, nL⟩ := κ
  obtain ⟨rfl, hx, hb, hml, hown, hX, -⟩ := hC
  subst hq
  intro r hr H locs ls hP hS hl
  cases hg : ca_in x n with
  | false => rw [hg] at hr; cases hr
  | true =>
    rw [hg] at hr
    obtain ⟨k0, hk0, hk1⟩ := ca_lay_get (Γ := Γ) σ hm
    have hset := ca_lay_set (Γ := Γ) (σ := σ) (σ' := ca_st σ c0 x.toNatClampNeg v) hX.2.2.1.1 hk1 (fun _ _ h => ca_E_ne h)
    rw [ca_E_ia h1 h2, h3] at hk0 hset
    have hD := ca_lay_D (Γ := Γ) σ hX.2.2.1.1 hX.2.2.1.2
    refine va_iast hx hb hX.2.1 hP hD hS k0 0 hk0 rfl (ca_in_vp hg) hd (fun H1 locs1 hP1 hD1 hS1 => ?_)
    have e1 : (ca_st σ c0 x.toNatClampNeg v).1 c0 = upd (σ.1 c0) x.toNatClampNeg v := by
      rw [ca_st_eq]
      rfl
    rw [e1] at hset
    exact k hg r hr H1 locs1 ls (hset ▸ hP1) hS1 hl
theorem ca_zstQ {κ : ca_K} {cs : List ca_I} {cc : ByteArray} {own : String} {ret : Option FieldType} {fr lo : Nat} {ρ : Type} {Z : ρ → State → Prop} {σ : ca_S} {pc q : Nat} {lv : List (Nat × Value)} {st : List Value} {X : Option ρ} (hC : ca_C κ cs cc own ret fr lo) {c0 : ca_I} {n : Nat} {x v : Int32} (hm : c0 ∈ cs) (h1 : ca_ob c0.1 = none) (h2 : ca_ra c0.1 = none) (h3 : ca_ia c0 = (1, n)) (hv : vp_nar .boolean v = v) (hd : decode cc pc = .ok (.bastore, 1)) (hq : pc + 1 = q) (k : ca_in x n = true → ca_T κ Z (ca_st σ c0 x.toNatClampNeg v) q lv st X) : ca_T κ Z σ pc lv (.int v :: .int x :: .ref (ca_a κ c0) :: st) (ca_gd (ca_in x n) X) := by
  obtain ⟨Γ, cs', p, l, e, R, s, m, args, below, meth, c, nL⟩ := κ
  obtain ⟨rfl, hx, hb, hml, hown, hX, -⟩ := hC
  subst hq
  intro r hr H locs ls hP hS hl
  cases hg : ca_in x n with
  | false => rw [hg] at hr; cases hr
  | true =>
    rw [hg] at hr
    obtain ⟨k0, hk0, hk1⟩ := ca_lay_get (Γ := Γ) σ hm
    have hset := ca_lay_set (Γ := Γ) (σ := σ) (σ' := ca_st σ c0 x.toNatClampNeg v) hX.2.2.1.1 hk1 (fun _ _ h => ca_E_ne h)
    rw [ca_E_ia h1 h2, h3] at hk0 hset
    have hD := ca_lay_D (Γ := Γ) σ hX.2.2.1.1 hX.2.2.1.2
    refine va_zast hx hb hX.2.1 hP hD hS k0 1 hk0 rfl (ca_in_vp hg) hd (fun H1 locs1 hP1 hD1 hS1 => ?_)
    rw [hv] at hP1
    have e1 : (ca_st σ c0 x.toNatClampNeg v).1 c0 = upd (σ.1 c0) x.toNatClampNeg v := by
      rw [ca_st_eq]
      rfl
    rw [e1] at hset
    exact k hg r hr H1 locs1 ls (hset ▸ hP1) hS1 hl
theorem ca_aldQ {κ : ca_K} {cs : List ca_I} {cc : ByteArray} {own : String} {ret : Option FieldType} {fr lo : Nat} {ρ : Type} {Z : ρ → State → Prop} {σ : ca_S} {pc q : Nat} {lv : List (Nat × Value)} {st : List Value} {X : Option ρ} (hC : ca_C κ cs cc own ret fr lo) {c0 : ca_I} {t n : Nat} {x : Int32} (hm : c0 ∈ cs) (h1 : ca_ob c0.1 = none) (h2 : ca_ra c0.1 = some (t, n)) (ty : FieldType) (hty : ty.isReference = true) (ht : (ca_tys κ.1)[t]? = some (κ.1.2.2.1 t, ty)) (hd : decode cc pc = .ok (.aaload, 1)) (hq : pc + 1 = q) (k : ca_in x n = true → ca_T κ Z σ q lv (.ref (ca_a κ (ca_ch c0 x.toNatClampNeg)) :: st) X) : ca_T κ Z σ pc lv (.int x :: .ref (ca_a κ c0) :: st) (ca_gd (ca_in x n) X) := by
  obtain ⟨Γ, cs', p, l, e, R, s, m, args, below, meth, c, nL⟩ := κ
  obtain ⟨rfl, hx, hb, hml, hown, hX, -⟩ := hC
  subst hq
  intro r hr H locs ls hP hS hl
  cases hg : ca_in x n with
  | false => rw [hg] at hr; cases hr
  | true =>
    rw [hg] at hr
    obtain ⟨k0, hk0, -⟩ := ca_lay_get (Γ := Γ) σ hm
    rw [ca_E_ra h1 h2] at hk0
    have hin := ca_in_vp hg
    have hlt := ca_in_lt hg
    exact W.aald (v := va_rf ((fun i => some (Γ.2.1 (ca_ch c0 i))) x.toNatClampNeg)) (ty := ty) hx hb (hP k0 _ hk0) ((hX.2.1.2 t _ ht).1 n (fun j => va_rf ((fun i => some (Γ.2.1 (ca_ch c0 i))) j))) hty (fun q => by cases q) (by show ¬ (x < 0 ∨ (arrV _ _ _).slots.size ≤ _); rw [arrV_size]; exact hin) (by show (arrV _ _ _).slots[_]? = _; rw [arrV_read _ _ hlt]) rfl rfl hd (k hg r hr H locs ls hP hS hl)
theorem ca_gets {κ : ca_K} {cs : List ca_I} {cc : ByteArray} {own : String} {ret : Option FieldType} {fr lo : Nat} {ρ : Type} {Z : ρ → State → Prop} {σ : ca_S} {pc q : Nat} {lv : List (Nat × Value)} {st : List Value} {X : Option ρ} (hC : ca_C κ cs cc own ret fr lo) {i : Nat} (hw : ca_Yw (.fieldLink own i "ClassAnswers$Joiner" "WAYS" "[I")) (hd : decode cc pc = .ok (.getstatic i, 3)) (hq : pc + 3 = q) (k : ca_T κ Z σ q lv (.ref κ.1.2.2.2 :: st) X) : ca_T κ Z σ pc lv st X := by
  obtain ⟨Γ, cs', p, l, e, R, s, m, args, below, meth, c, nL⟩ := κ
  obtain ⟨rfl, hx, hb, hml, hown, hX, -⟩ := hC
  subst hq
  intro r hr H locs ls hP hS hl
  exact va_gets hx hb hX.2.2.2.1 hS hown (hw.use rfl hX.1) (fun x h => h) hd (k r hr H locs ls hP hS hl)
theorem ca_wald {κ : ca_K} {cs : List ca_I} {cc : ByteArray} {own : String} {ret : Option FieldType} {fr lo : Nat} {ρ : Type} {Z : ρ → State → Prop} {σ : ca_S} {pc q : Nat} {lv : List (Nat × Value)} {st : List Value} {X : Option ρ} (hC : ca_C κ cs cc own ret fr lo) {x : Int32} (hd : decode cc pc = .ok (.iaload, 1)) (hq : pc + 1 = q) (k : ca_in x 6 = true → ca_T κ Z σ q lv (.int (ca_ways x.toNatClampNeg) :: st) X) : ca_T κ Z σ pc lv (.int x :: .ref κ.1.2.2.2 :: st) (ca_gd (ca_in x 6) X) := by
  obtain ⟨Γ, cs', p, l, e, R, s, m, args, below, meth, c, nL⟩ := κ
  obtain ⟨rfl, hx, hb, hml, hown, hX, -⟩ := hC
  subst hq
  intro r hr H locs ls hP hS hl
  cases hg : ca_in x 6 with
  | false => rw [hg] at hr; cases hr
  | true =>
    rw [hg] at hr
    exact va_ti hx hb hX.2.2.2.2 hS (ca_in_vp hg) rfl hd (k hg r hr H locs ls hP hS hl)
-- ===== ends =====
theorem ca_ireti {κ : ca_K} {cs : List ca_I} {cc : ByteArray} {own : String} {ty : FieldType} {fr lo : Nat} {σ : ca_S} {pc : Nat} {lv : List (Nat × Value)} (hC : ca_C κ cs cc own (some ty) fr lo) {x : Int32} (hd : decode cc pc = .ok (.ireturn, 1)) (hn : narrow ty (.int x) = .int x) : ca_T κ (ca_Zi κ) σ pc lv [.int x] (some (x, σ)) := by
  obtain ⟨Γ, cs', p, l, e, R, s, m, args, below, meth, c, nL⟩ := κ
  obtain ⟨rfl, hx, hb, hml, hown, hX, hlk, hrt, -⟩ := hC
  intro r hr H locs ls hP hS hl
  cases hr
  exact W.zret (Qc := ca_Qi Γ cs' (x, σ)) hx hb hrt hn (fun t ht _ => ⟨⟨x, (), rfl, rfl, by show va_P _ _ _ t.heap; rw [ht]; exact hP⟩, hS.F ht⟩) hS.2.2 hd hlk
theorem ca_iretr {κ : ca_K} {cs : List ca_I} {cc : ByteArray} {own : String} {ty : FieldType} {fr lo : Nat} {σ : ca_S} {pc : Nat} {lv : List (Nat × Value)} (hC : ca_C κ cs cc own (some ty) fr lo) {x : Int32} (hd : decode cc pc = .ok (.ireturn, 1)) (hn : narrow ty (.int x) = .int x) : ca_T κ (ca_Zr κ σ) σ pc lv [.int x] (some x) := by
  obtain ⟨Γ, cs', p, l, e, R, s, m, args, below, meth, c, nL⟩ := κ
  obtain ⟨rfl, hx, hb, hml, hown, hX, hlk, hrt, -⟩ := hC
  intro r hr H locs ls hP hS hl
  cases hr
  exact W.zret (Qc := ca_Qi Γ cs' (x, σ)) hx hb hrt hn (fun t ht _ => ⟨⟨x, (), rfl, rfl, by show va_P _ _ _ t.heap; rw [ht]; exact hP⟩, hS.F ht⟩) hS.2.2 hd hlk
/-- a truth value: 0 or 1 -/
def ca_bo (x : Int32) : Bool := decide (x = 0) || decide (x = 1)
theorem ca_bo_n {x : Int32} (h : ca_bo x = true) : narrow .boolean (.int x) = .int x := by
  simp only [ca_bo, Bool.or_eq_true, decide_eq_true_eq] at h
  rcases h with rfl | rfl <;> rfl
theorem ca_bo_f {x : Int32} (h : ca_bo x = true) : fits .boolean (.int x) = true := by
  simp only [ca_bo, Bool.or_eq_true, decide_eq_true_eq] at h
  rcases h with rfl | rfl <;> rfl
theorem ca_grd {ρ : Type} {κ : ca_K} {Z : ρ → State → Prop} {σ : ca_S} {pc : Nat} {lv : List (Nat × Value)} {st : List Value} {X : Option ρ} {b : Bool} (k : b = true → ca_T κ Z σ pc lv st X) : ca_T κ Z σ pc lv st (ca_gd b X) := by
  cases b with
  | false => exact ca_no
  | true => exact k rfl
theorem ca_vret {κ : ca_K} {cs : List ca_I} {cc : ByteArray} {own : String} {fr lo : Nat} {σ : ca_S} {pc : Nat} {lv : List (Nat × Value)} (hC : ca_C κ cs cc own none fr lo) (hd : decode cc pc = .ok (.return_, 1)) : ca_T κ (ca_Zv κ) σ pc lv [] (some σ) := by
  obtain ⟨Γ, cs', p, l, e, R, s, m, args, below, meth, c, nL⟩ := κ
  obtain ⟨rfl, hx, hb, hml, hown, hX, hlk, hrt, -⟩ := hC
  intro r hr H locs ls hP hS hl
  cases hr
  exact W.vret (Qc := ca_Qv Γ cs' σ) hx hb hrt (fun t ht _ => ⟨⟨(), rfl, trivial, by show va_P _ _ _ t.heap; rw [ht]; exact hP⟩, hS.F ht⟩) hS.2.2 hd hlk
/-- a method's contract out of its walk -/
theorem ca_met {ρ : Type} {Q : ρ → Array Value → State → Outcome → State → Prop} {Γ : ca_G} {cs : List ca_I} {l : Launch} {y : MethodName} {cc : ByteArray} {nL : Nat} {ret : Option FieldType} {fr lo : Nat} {av : List Value} {σ : ca_S} {X : Option ρ} (hy : plainName y.cls = true) (hlen : (lg_sl av).length ≤ nL) {lv : List (Nat × Value)} (hlv : lv_args 0 av = lv) (body : ∀ κ : ca_K, κ.1 = Γ → κ.2.2.2.1 = l → κ.2.2.2.2.2.2.2.2.2.2.2.2 = nL → ca_C κ cs cc y.cls ret fr lo → ca_T κ (ca_Z Q κ) σ 0 lv [] X) : ca_M Q Γ cs l y cc nL ret fr lo av σ X := by
  intro r hr
  refine Met.ofW (cc := cc) (maxL := nL) (ret := ret) hy rfl ?_
  intro p e s m args below meth c s₁ B hml hv
  obtain ⟨hav, hX, hP⟩ := hv
  subst hav
  have hb := body (Γ, cs, p, l, e, (headSpec [Cond.code y cc nL ret] { frames := fr, cells := 0, slots := 0, locals := lo }).room, s, m, av.toArray, below, meth, c, nL) rfl rfl rfl ⟨rfl, B.exec, B.bytes, hml, findClass_of_methodNamed B.named, hX, B.notSynchronized, B.returns, Nat.le_refl _, Nat.le_refl _⟩
  rw [lg_entry_eq]
  exact hb r hr s.heap [] _ hP va_S.rf (hlv ▸ lv_entry av hlen)
-- ===== calls =====
def ca_Yv (y : MethodName) (C : String) (cc : ByteArray) (nL : Nat) (ret : Option FieldType) (n : Nat) : Prop := ca_Yw (.instanceMethod y) ∧ ca_Yw (.selects C y y) ∧ ca_Yw (.initialized y.cls) ∧ ca_Yw (.code y cc nL ret) ∧ y.cls ≠ "java/lang/invoke/MethodHandle" ∧ y.cls ≠ "java/lang/invoke/VarHandle" ∧ (parseMethodDescriptor y.desc).map (fun d => d.parameters.length) = some n
def ca_Ys (y : MethodName) (cc : ByteArray) (nL : Nat) (ret : Option FieldType) (n : Nat) : Prop := ca_Yw (.static y) ∧ ca_Yw (.initialized y.cls) ∧ ca_Yw (.code y cc nL ret) ∧ y.cls ≠ "java/lang/invoke/MethodHandle" ∧ y.cls ≠ "java/lang/invoke/VarHandle" ∧ (parseMethodDescriptor y.desc).map (fun d => d.parameters.length) = some n
def ca_Yl (own : String) (i : Nat) (y : MethodName) : Prop := ca_Yw (.methodLink own i y) ∨ ∃ host, ca_Yw (.methodLinkNest own i y host)
theorem ca_pln {y : MethodName} {n : Nat} (h : (parseMethodDescriptor y.desc).map (fun d => d.parameters.length) = some n) : ∀ sig, parseMethodDescriptor y.desc = some sig → n = sig.parameters.length := by
  intro sig hs
  rw [hs] at h
  exact (Option.some.inj h).symm
theorem ca_blind {Γ : ca_G} {cs : List ca_I} {σ : ca_S} {av : List Value} : FrameBlind (va_Pc av (fun U => ca_X Γ cs U ∧ va_P Γ.1 vwCl (ca_lay Γ cs σ) U.heap)) := by
  intro a U g mk h
  exact ⟨h.1, ca_X.warm (U := U.calling g mk a) (State.WarmedH.refl U) (fun _ _ _ => rfl) h.2.1, h.2.2⟩
/-- a call of a method of an object: the run -/
theorem ca_runV {Γ : ca_G} {cs : List ca_I} {p : Program} {l : Launch} {e : Env} {R : Room} {s : State} {m : MethodId} {args : Array Value} {below : List Frame} {meth : Method} {c : Code} {nL : Nat} {cc : ByteArray} {own : String} {H : Heap} {locs : List Loc} {pc : Nat} {ls : Array Slot} {stk : List Value} {lv : List (Nat × Value)} {σ : ca_S} {Qr : Array Value → State → Outcome → State → Prop} {y : MethodName} {C : String} {T : u_T} {N : Nat} {bytes : ByteArray} {mL n i f2 l2 ci : Nat} {rt : Option FieldType} {c0 : ca_I} {As rest : List Value} (hx : p.tables.exec = Jvm.exec) (hb : c.code = cc) (hml : c.maxLocals = nL) (hown : s.vm.findClass own = some m.cls) (hX : ca_X Γ cs s) (hP : va_P Γ.1 vwCl (ca_lay Γ cs σ) H) (hS : va_S (ca_Ad Γ cs) s.heap H locs) (hl : lv_has ls nL lv)
    (hM : Met l y [.code y bytes mL rt] { frames := f2, cells := 0, slots := 0, locals := l2 } (va_Pc (.ref (Γ.2.1 c0) :: As) (fun U => ca_X Γ cs U ∧ va_P Γ.1 vwCl (ca_lay Γ cs σ) U.heap)) Qr 0 0 (ca_Ad Γ cs)) (hY : ca_Yv y C bytes mL rt n) (hL : ca_Yl own i y) (hm : c0 ∈ cs) (ho : ca_ob c0.1 = some (ci, N)) (hcl : vwCl[ci]? = some (C, T, N)) (hn : As.length = n) (hstk : stk = As.reverse ++ .ref (Γ.2.1 c0) :: rest) (hc8 : (rest.map fun v => v.category).sum ≤ 8) (hR : f2 + 1 ≤ R.frames ∧ 8 + (mL + 11) + l2 ≤ R.locals) (hd : decode cc pc = .ok (.invokevirtual i, 3)) :
    va_Run p l e R s m args below meth c H locs 0 0 0 0 (F0 m pc ls stk) rest (Qr (Value.ref (Γ.2.1 c0) :: As).toArray) (ca_Ad Γ cs) := by
  obtain ⟨k0, hk0, -⟩ := ca_lay_get (Γ := Γ) σ hm
  rw [ca_E_ob ho] at hk0
  obtain ⟨h1, h2, h3, h4, h5, h6, h7⟩ := hY
  have hpre : PreV s H C (Γ.2.1 c0) (va_Pc (.ref (Γ.2.1 c0) :: As) (fun U => ca_X Γ cs U ∧ va_P Γ.1 vwCl (ca_lay Γ cs σ) U.heap)) As := ⟨ca_blind, va_recv hX.2.1 hP hcl hk0, fun U hU hW => ⟨rfl, ca_X.warm hW (fun q g1 g2 => by rw [hU]; exact hS.2.1 q g1 g2) hX, by rw [hU]; exact hP⟩⟩
  have hcode : (Cond.code y bytes mL rt).before args s = true := h4.use rfl hX.1
  have hpay : ∀ w ∈ [Cond.code y bytes mL rt], ∀ (a' : Array Value) (U : State), s.WarmedH U.vm → w.before a' U = true := fun w hw a' U hW => by
    rw [List.mem_singleton.mp hw]
    exact h4.use rfl (hX.1.warm hW)
  rcases hL with hL | ⟨host, hL⟩
  · exact va_runV (Ts := []) (bytes := bytes) (maxL := mL) (ret := rt) ⟨hx, hb, hml, hown, fun _ h => by cases h⟩ hM ⟨⟨rfl, rfl, hR.1, hR.2, hpay, List.mem_singleton.mpr rfl, hcode, h3.use rfl hX.1, ⟨h5, h6⟩, ca_pln h7, hL.use rfl hX.1⟩, h1.use rfl hX.1, h2.use rfl hX.1⟩ hpre rfl hn hl.1 hstk (lv_room hc8) hd ⟨Nat.zero_le _, Nat.zero_le _⟩
  · exact va_runVN (Ts := []) (bytes := bytes) (maxL := mL) (ret := rt) ⟨hx, hb, hml, hown, fun _ h => by cases h⟩ hM ⟨⟨⟨rfl, rfl, hR.1, hR.2, hpay, List.mem_singleton.mpr rfl⟩, hcode, h3.use rfl hX.1, ⟨h5, h6⟩, ca_pln h7, hL.use rfl hX.1⟩, h1.use rfl hX.1, h2.use rfl hX.1⟩ hpre rfl hn hl.1 hstk (lv_room hc8) hd ⟨Nat.zero_le _, Nat.zero_le _⟩
theorem ca_runS {Γ : ca_G} {cs : List ca_I} {p : Program} {l : Launch} {e : Env} {R : Room} {s : State} {m : MethodId} {args : Array Value} {below : List Frame} {meth : Method} {c : Code} {nL : Nat} {cc : ByteArray} {own : String} {H : Heap} {locs : List Loc} {pc : Nat} {ls : Array Slot} {stk : List Value} {lv : List (Nat × Value)} {σ : ca_S} {Qr : Array Value → State → Outcome → State → Prop} {y : MethodName} {bytes : ByteArray} {mL n i f2 l2 : Nat} {rt : Option FieldType} {As rest : List Value} (hx : p.tables.exec = Jvm.exec) (hb : c.code = cc) (hml : c.maxLocals = nL) (hown : s.vm.findClass own = some m.cls) (hX : ca_X Γ cs s) (hP : va_P Γ.1 vwCl (ca_lay Γ cs σ) H) (hS : va_S (ca_Ad Γ cs) s.heap H locs) (hl : lv_has ls nL lv)
    (hM : Met l y [.code y bytes mL rt] { frames := f2, cells := 0, slots := 0, locals := l2 } (va_Pc As (fun U => ca_X Γ cs U ∧ va_P Γ.1 vwCl (ca_lay Γ cs σ) U.heap)) Qr 0 0 (ca_Ad Γ cs)) (hY : ca_Ys y bytes mL rt n) (hL : ca_Yl own i y) (hn : As.length = n) (hstk : stk = As.reverse ++ rest) (hc8 : (rest.map fun v => v.category).sum ≤ 8) (hR : f2 + 1 ≤ R.frames ∧ 8 + (mL + 11) + l2 ≤ R.locals) (hd : decode cc pc = .ok (.invokestatic i, 3)) :
    va_Run p l e R s m args below meth c H locs 0 0 0 0 (F0 m pc ls stk) rest (Qr As.toArray) (ca_Ad Γ cs) := by
  obtain ⟨h1, h3, h4, h5, h6, h7⟩ := hY
  have hpre : PreS s H (va_Pc As (fun U => ca_X Γ cs U ∧ va_P Γ.1 vwCl (ca_lay Γ cs σ) U.heap)) As := ⟨ca_blind, fun U hU hW => ⟨rfl, ca_X.warm hW (fun q g1 g2 => by rw [hU]; exact hS.2.1 q g1 g2) hX, by rw [hU]; exact hP⟩⟩
  have hcode : (Cond.code y bytes mL rt).before args s = true := h4.use rfl hX.1
  have hpay : ∀ w ∈ [Cond.code y bytes mL rt], ∀ (a' : Array Value) (U : State), s.WarmedH U.vm → w.before a' U = true := fun w hw a' U hW => by
    rw [List.mem_singleton.mp hw]
    exact h4.use rfl (hX.1.warm hW)
  rcases hL with hL | ⟨host, hL⟩
  · exact va_runS (Ts := []) (bytes := bytes) (maxL := mL) (ret := rt) ⟨hx, hb, hml, hown, fun _ h => by cases h⟩ hM ⟨⟨rfl, rfl, hR.1, hR.2, hpay, List.mem_singleton.mpr rfl, hcode, h3.use rfl hX.1, ⟨h5, h6⟩, ca_pln h7, hL.use rfl hX.1⟩, h1.use rfl hX.1⟩ hpre rfl hn hl.1 hstk (lv_room hc8) hd ⟨Nat.zero_le _, Nat.zero_le _⟩
  · exact va_runSN (Ts := []) (bytes := bytes) (maxL := mL) (ret := rt) ⟨hx, hb, hml, hown, fun _ h => by cases h⟩ hM ⟨⟨⟨rfl, rfl, hR.1, hR.2, hpay, List.mem_singleton.mpr rfl⟩, hcode, h3.use rfl hX.1, ⟨h5, h6⟩, ca_pln h7, hL.use rfl hX.1⟩, h1.use rfl hX.1, trivial⟩ hpre rfl hn hl.1 hstk (lv_room hc8) hd ⟨Nat.zero_le _, Nat.zero_le _⟩
theorem ca_callVi {κ : ca_K} {cs : List ca_I} {cc : ByteArray} {own : String} {ret : Option FieldType} {fr lo : Nat} {ρ : Type} {Z : ρ → State → Prop} {σ : ca_S} {pc q : Nat} {lv : List (Nat × Value)} {rest stk : List Value} (hC : ca_C κ cs cc own ret fr lo) {y : MethodName} {bytes : ByteArray} {mL n i f2 l2 : Nat} {rt : Option FieldType} {As : List Value} {C : String} {T : u_T} {N ci : Nat} {c0 : ca_I} {Xc : Option (Int32 × ca_S)} {X : Int32 → ca_S → Option ρ} (hM : ca_Mi κ.1 cs κ.2.2.2.1 y bytes mL rt f2 l2 (.ref (ca_a κ c0) :: As) σ Xc) (hY : ca_Yv y C bytes mL rt n) (hL : ca_Yl own i y) (hm : c0 ∈ cs) (ho : ca_ob c0.1 = some (ci, N)) (hcl : vwCl[ci]? = some (C, T, N)) (hn : As.length = n) (hstk : stk = As.reverse ++ .ref (ca_a κ c0) :: rest) (hc8 : (rest.map fun v => v.category).sum ≤ 8) (hR : f2 + 1 ≤ fr ∧ 8 + (mL + 11) + l2 ≤ lo) (hd : decode cc pc = .ok (.invokevirtual i, 3)) (hq : pc + 3 = q) (k : ∀ r σ', Xc = some (r, σ') → ca_T κ Z σ' q lv (.int r :: rest) (X r σ')) : ca_T κ Z σ pc lv stk (ca_bi Xc X) := by
  obtain ⟨Γ, cs', p, l, e, R, s, m, args, below, meth, c, nL⟩ := κ
  obtain ⟨rfl, hx, hb, hml, hown, hX, hlk, hrt, hfr, hlo⟩ := hC
  subst hq
  intro r hr H locs ls hP hS hl
  cases hc : Xc with
  | none => rw [hc] at hr; cases hr
  | some rc =>
    rw [hc] at hr
    refine va_calli (A1 := ca_Ad Γ cs') (ca_runV hx hb hml hown hX hP hS hl (hM rc hc) hY hL hm ho hcl hn hstk hc8 ⟨Nat.le_trans hR.1 hfr, Nat.le_trans hR.2 hlo⟩ hd) hS (fun q _ h => h) (fun q h => h) (fun r2 u t H1 locs1 ht hvm hp hB hz hk2 hS1 => ?_)
    subst hp
    exact k rc.1 rc.2 hc r hr H1 locs1 ls (ht ▸ hB) hS1 hl
theorem ca_callVr {κ : ca_K} {cs : List ca_I} {cc : ByteArray} {own : String} {ret : Option FieldType} {fr lo : Nat} {ρ : Type} {Z : ρ → State → Prop} {σ : ca_S} {pc q : Nat} {lv : List (Nat × Value)} {rest stk : List Value} (hC : ca_C κ cs cc own ret fr lo) {y : MethodName} {bytes : ByteArray} {mL n i f2 l2 : Nat} {rt : Option FieldType} {As : List Value} {C : String} {T : u_T} {N ci : Nat} {c0 : ca_I} {Xc : Option Int32} {X : Int32 → Option ρ} (hM : ca_Mr κ.1 cs κ.2.2.2.1 y bytes mL rt f2 l2 (.ref (ca_a κ c0) :: As) σ Xc) (hY : ca_Yv y C bytes mL rt n) (hL : ca_Yl own i y) (hm : c0 ∈ cs) (ho : ca_ob c0.1 = some (ci, N)) (hcl : vwCl[ci]? = some (C, T, N)) (hn : As.length = n) (hstk : stk = As.reverse ++ .ref (ca_a κ c0) :: rest) (hc8 : (rest.map fun v => v.category).sum ≤ 8) (hR : f2 + 1 ≤ fr ∧ 8 + (mL + 11) + l2 ≤ lo) (hd : decode cc pc = .ok (.invokevirtual i, 3)) (hq : pc + 3 = q) (k : ∀ r, Xc = some r → ca_T κ Z σ q lv (.int r :: rest) (X r)) : ca_T κ Z σ pc lv stk (ca_br Xc X) := by
  obtain ⟨Γ, cs', p, l, e, R, s, m, args, below, meth, c, nL⟩ := κ
  obtain ⟨rfl, hx, hb, hml, hown, hX, hlk, hrt, hfr, hlo⟩ := hC
  subst hq
  intro r hr H locs ls hP hS hl
  cases hc : Xc with
  | none => rw [hc] at hr; cases hr
  | some rc =>
    rw [hc] at hr
    refine va_calli (A1 := ca_Ad Γ cs') (ca_runV hx hb hml hown hX hP hS hl (hM rc hc) hY hL hm ho hcl hn hstk hc8 ⟨Nat.le_trans hR.1 hfr, Nat.le_trans hR.2 hlo⟩ hd) hS (fun q _ h => h) (fun q h => h) (fun r2 u t H1 locs1 ht hvm hp hB hz hk2 hS1 => ?_)
    have hp : r2 = rc := hp
    rw [hp]
    exact k rc hc r hr H1 locs1 ls (ht ▸ hB) hS1 hl
theorem ca_callVv {κ : ca_K} {cs : List ca_I} {cc : ByteArray} {own : String} {ret : Option FieldType} {fr lo : Nat} {ρ : Type} {Z : ρ → State → Prop} {σ : ca_S} {pc q : Nat} {lv : List (Nat × Value)} {rest stk : List Value} (hC : ca_C κ cs cc own ret fr lo) {y : MethodName} {bytes : ByteArray} {mL n i f2 l2 : Nat} {rt : Option FieldType} {As : List Value} {C : String} {T : u_T} {N ci : Nat} {c0 : ca_I} {Xc : Option ca_S} {X : ca_S → Option ρ} (hM : ca_Mv κ.1 cs κ.2.2.2.1 y bytes mL rt f2 l2 (.ref (ca_a κ c0) :: As) σ Xc) (hY : ca_Yv y C bytes mL rt n) (hL : ca_Yl own i y) (hm : c0 ∈ cs) (ho : ca_ob c0.1 = some (ci, N)) (hcl : vwCl[ci]? = some (C, T, N)) (hn : As.length = n) (hstk : stk = As.reverse ++ .ref (ca_a κ c0) :: rest) (hc8 : (rest.map fun v => v.category).sum ≤ 8) (hR : f2 + 1 ≤ fr ∧ 8 + (mL + 11) + l2 ≤ lo) (hd : decode cc pc = .ok (.invokevirtual i, 3)) (hq : pc + 3 = q) (k : ∀ σ', Xc = some σ' → ca_T κ Z σ' q lv rest (X σ')) : ca_T κ Z σ pc lv stk (ca_bv Xc X) := by
  obtain ⟨Γ, cs', p, l, e, R, s, m, args, below, meth, c, nL⟩ := κ
  obtain ⟨rfl, hx, hb, hml, hown, hX, hlk, hrt, hfr, hlo⟩ := hC
  subst hq
  intro r hr H locs ls hP hS hl
  cases hc : Xc with
  | none => rw [hc] at hr; cases hr
  | some rc =>
    rw [hc] at hr
    refine va_callv (A1 := ca_Ad Γ cs') (ca_runV hx hb hml hown hX hP hS hl (hM rc hc) hY hL hm ho hcl hn hstk hc8 ⟨Nat.le_trans hR.1 hfr, Nat.le_trans hR.2 hlo⟩ hd) hS (fun q _ h => h) (fun q h => h) (fun u t H1 locs1 ht hvm hp hB hz hk2 hS1 => ?_)
    exact k rc hc r hr H1 locs1 ls (ht ▸ hB) hS1 hl
theorem ca_callSi {κ : ca_K} {cs : List ca_I} {cc : ByteArray} {own : String} {ret : Option FieldType} {fr lo : Nat} {ρ : Type} {Z : ρ → State → Prop} {σ : ca_S} {pc q : Nat} {lv : List (Nat × Value)} {rest stk : List Value} (hC : ca_C κ cs cc own ret fr lo) {y : MethodName} {bytes : ByteArray} {mL n i f2 l2 : Nat} {rt : Option FieldType} {As : List Value}  {Xc : Option (Int32 × ca_S)} {X : Int32 → ca_S → Option ρ} (hM : ca_Mi κ.1 cs κ.2.2.2.1 y bytes mL rt f2 l2 As σ Xc) (hY : ca_Ys y bytes mL rt n) (hL : ca_Yl own i y) (hn : As.length = n) (hstk : stk = As.reverse ++ rest) (hc8 : (rest.map fun v => v.category).sum ≤ 8) (hR : f2 + 1 ≤ fr ∧ 8 + (mL + 11) + l2 ≤ lo) (hd : decode cc pc = .ok (.invokestatic i, 3)) (hq : pc + 3 = q) (k : ∀ r σ', Xc = some (r, σ') → ca_T κ Z σ' q lv (.int r :: rest) (X r σ')) : ca_T κ Z σ pc lv stk (ca_bi Xc X) := by
  obtain ⟨Γ, cs', p, l, e, R, s, m, args, below, meth, c, nL⟩ := κ
  obtain ⟨rfl, hx, hb, hml, hown, hX, hlk, hrt, hfr, hlo⟩ := hC
  subst hq
  intro r hr H locs ls hP hS hl
  cases hc : Xc with
  | none => rw [hc] at hr; cases hr
  | some rc =>
    rw [hc] at hr
    refine va_calli (A1 := ca_Ad Γ cs') (ca_runS hx hb hml hown hX hP hS hl (hM rc hc) hY hL hn hstk hc8 ⟨Nat.le_trans hR.1 hfr, Nat.le_trans hR.2 hlo⟩ hd) hS (fun q _ h => h) (fun q h => h) (fun r2 u t H1 locs1 ht hvm hp hB hz hk2 hS1 => ?_)
    subst hp
    exact k rc.1 rc.2 hc r hr H1 locs1 ls (ht ▸ hB) hS1 hl
theorem ca_callSr {κ : ca_K} {cs : List ca_I} {cc : ByteArray} {own : String} {ret : Option FieldType} {fr lo : Nat} {ρ : Type} {Z : ρ → State → Prop} {σ : ca_S} {pc q : Nat} {lv : List (Nat × Value)} {rest stk : List Value} (hC : ca_C κ cs cc own ret fr lo) {y : MethodName} {bytes : ByteArray} {mL n i f2 l2 : Nat} {rt : Option FieldType} {As : List Value}  {Xc : Option Int32} {X : Int32 → Option ρ} (hM : ca_Mr κ.1 cs κ.2.2.2.1 y bytes mL rt f2 l2 As σ Xc) (hY : ca_Ys y bytes mL rt n) (hL : ca_Yl own i y) (hn : As.length = n) (hstk : stk = As.reverse ++ rest) (hc8 : (rest.map fun v => v.category).sum ≤ 8) (hR : f2 + 1 ≤ fr ∧ 8 + (mL + 11) + l2 ≤ lo) (hd : decode cc pc = .ok (.invokestatic i, 3)) (hq : pc + 3 = q) (k : ∀ r, Xc = some r → ca_T κ Z σ q lv (.int r :: rest) (X r)) : ca_T κ Z σ pc lv stk (ca_br Xc X) := by
  obtain ⟨Γ, cs', p, l, e, R, s, m, args, below, meth, c, nL⟩ := κ
  obtain ⟨rfl, hx, hb, hml, hown, hX, hlk, hrt, hfr, hlo⟩ := hC
  subst hq
  intro r hr H locs ls hP hS hl
  cases hc : Xc with
  | none => rw [hc] at hr; cases hr
  | some rc =>
    rw [hc] at hr
    refine va_calli (A1 := ca_Ad Γ cs') (ca_runS hx hb hml hown hX hP hS hl (hM rc hc) hY hL hn hstk hc8 ⟨Nat.le_trans hR.1 hfr, Nat.le_trans hR.2 hlo⟩ hd) hS (fun q _ h => h) (fun q h => h) (fun r2 u t H1 locs1 ht hvm hp hB hz hk2 hS1 => ?_)
    have hp : r2 = rc := hp
    rw [hp]
    exact k rc hc r hr H1 locs1 ls (ht ▸ hB) hS1 hl
theorem ca_callSv {κ : ca_K} {cs : List ca_I} {cc : ByteArray} {own : String} {ret : Option FieldType} {fr lo : Nat} {ρ : Type} {Z : ρ → State → Prop} {σ : ca_S} {pc q : Nat} {lv : List (Nat × Value)} {rest stk : List Value} (hC : ca_C κ cs cc own ret fr lo) {y : MethodName} {bytes : ByteArray} {mL n i f2 l2 : Nat} {rt : Option FieldType} {As : List Value}  {Xc : Option ca_S} {X : ca_S → Option ρ} (hM : ca_Mv κ.1 cs κ.2.2.2.1 y bytes mL rt f2 l2 As σ Xc) (hY : ca_Ys y bytes mL rt n) (hL : ca_Yl own i y) (hn : As.length = n) (hstk : stk = As.reverse ++ rest) (hc8 : (rest.map fun v => v.category).sum ≤ 8) (hR : f2 + 1 ≤ fr ∧ 8 + (mL + 11) + l2 ≤ lo) (hd : decode cc pc = .ok (.invokestatic i, 3)) (hq : pc + 3 = q) (k : ∀ σ', Xc = some σ' → ca_T κ Z σ' q lv rest (X σ')) : ca_T κ Z σ pc lv stk (ca_bv Xc X) := by
  obtain ⟨Γ, cs', p, l, e, R, s, m, args, below, meth, c, nL⟩ := κ
  obtain ⟨rfl, hx, hb, hml, hown, hX, hlk, hrt, hfr, hlo⟩ := hC
  subst hq
  intro r hr H locs ls hP hS hl
  cases hc : Xc with
  | none => rw [hc] at hr; cases hr
  | some rc =>
    rw [hc] at hr
    refine va_callv (A1 := ca_Ad Γ cs') (ca_runS hx hb hml hown hX hP hS hl (hM rc hc) hY hL hn hstk hc8 ⟨Nat.le_trans hR.1 hfr, Nat.le_trans hR.2 hlo⟩ hd) hS (fun q _ h => h) (fun q h => h) (fun u t H1 locs1 ht hvm hp hB hz hk2 hS1 => ?_)
    exact k rc hc r hr H1 locs1 ls (ht ▸ hB) hS1 hl
theorem ca_mmax {κ : ca_K} {cs : List ca_I} {cc : ByteArray} {own : String} {ret : Option FieldType} {fr lo : Nat} {ρ : Type} {Z : ρ → State → Prop} {σ : ca_S} {pc q : Nat} {lv : List (Nat × Value)} {st : List Value} {X : Option ρ} (hC : ca_C κ cs cc own ret fr lo) {x y : Int32} {i : Nat} (hw : ca_Yw (.methodLink own i Lib.Math.max.name)) (hw2 : ca_Yw (.static Lib.Math.max.name)) (hw3 : ca_Yw (.initialized "java/lang/Math")) (hw4 : ca_Yw (.code Lib.Math.max.name Lib.Math.max.code 2 (some .int))) (hfr2 : 1 ≤ fr) (hlo2 : (st.map fun v => v.category).sum + 13 ≤ lo) (hd : decode cc pc = .ok (.invokestatic i, 3)) (hq : pc + 3 = q) (k : ca_T κ Z σ q lv (.int (if x < y then y else x) :: st) X) : ca_T κ Z σ pc lv (.int y :: .int x :: st) X := by
  obtain ⟨Γ, cs', p, l, e, R, s, m, args, below, meth, c, nL⟩ := κ
  obtain ⟨rfl, hx, hb, hml, hown, hX, hlk, hrt, hfr, hlo⟩ := hC
  subst hq
  intro r hr H locs ls hP hS hl
  exact va_mmax hx hb (hml.trans hl.1.symm) hown (hw.use rfl hX.1) (hw2.use rfl hX.1) (hw3.use rfl hX.1) (hw4.use rfl hX.1) (Nat.le_trans hfr2 hfr) (Nat.le_trans hlo2 hlo) (Nat.zero_le _) (Nat.zero_le _) hd (k r hr H locs ls hP hS hl)
theorem ca_mmin {κ : ca_K} {cs : List ca_I} {cc : ByteArray} {own : String} {ret : Option FieldType} {fr lo : Nat} {ρ : Type} {Z : ρ → State → Prop} {σ : ca_S} {pc q : Nat} {lv : List (Nat × Value)} {st : List Value} {X : Option ρ} (hC : ca_C κ cs cc own ret fr lo) {x y : Int32} {i : Nat} (hw : ca_Yw (.methodLink own i Lib.Math.min.name)) (hw2 : ca_Yw (.static Lib.Math.min.name)) (hw3 : ca_Yw (.initialized "java/lang/Math")) (hw4 : ca_Yw (.code Lib.Math.min.name Lib.Math.min.code 2 (some .int))) (hfr2 : 1 ≤ fr) (hlo2 : (st.map fun v => v.category).sum + 13 ≤ lo) (hd : decode cc pc = .ok (.invokestatic i, 3)) (hq : pc + 3 = q) (k : ca_T κ Z σ q lv (.int (if y < x then y else x) :: st) X) : ca_T κ Z σ pc lv (.int y :: .int x :: st) X := by
  obtain ⟨Γ, cs', p, l, e, R, s, m, args, below, meth, c, nL⟩ := κ
  obtain ⟨rfl, hx, hb, hml, hown, hX, hlk, hrt, hfr, hlo⟩ := hC
  subst hq
  intro r hr H locs ls hP hS hl
  exact va_mmin hx hb (hml.trans hl.1.symm) hown (hw.use rfl hX.1) (hw2.use rfl hX.1) (hw3.use rfl hX.1) (hw4.use rfl hX.1) (Nat.le_trans hfr2 hfr) (Nat.le_trans hlo2 hlo) (Nat.zero_le _) (Nat.zero_le _) hd (k r hr H locs ls hP hS hl)
theorem ca_mabs {κ : ca_K} {cs : List ca_I} {cc : ByteArray} {own : String} {ret : Option FieldType} {fr lo : Nat} {ρ : Type} {Z : ρ → State → Prop} {σ : ca_S} {pc q : Nat} {lv : List (Nat × Value)} {st : List Value} {X : Option ρ} (hC : ca_C κ cs cc own ret fr lo) {x : Int32} {i : Nat} (hw : ca_Yw (.methodLink own i Lib.Math.abs.name)) (hw2 : ca_Yw (.static Lib.Math.abs.name)) (hw3 : ca_Yw (.initialized "java/lang/Math")) (hw4 : ca_Yw (.code Lib.Math.abs.name Lib.Math.abs.code 1 (some .int))) (hfr2 : 1 ≤ fr) (hlo2 : (st.map fun v => v.category).sum + 13 ≤ lo) (hd : decode cc pc = .ok (.invokestatic i, 3)) (hq : pc + 3 = q) (k : ca_T κ Z σ q lv (.int (if 0 ≤ x then x else 0 - x) :: st) X) : ca_T κ Z σ pc lv (.int x :: st) X := by
  obtain ⟨Γ, cs', p, l, e, R, s, m, args, below, meth, c, nL⟩ := κ
  obtain ⟨rfl, hx, hb, hml, hown, hX, hlk, hrt, hfr, hlo⟩ := hC
  subst hq
  intro r hr H locs ls hP hS hl
  exact va_mabs hx hb (hml.trans hl.1.symm) hown (hw.use rfl hX.1) (hw2.use rfl hX.1) (hw3.use rfl hX.1) (hw4.use rfl hX.1) (Nat.le_trans hfr2 hfr) (Nat.le_trans hlo2 hlo) (Nat.zero_le _) (Nat.zero_le _) hd (k r hr H locs ls hP hS hl)
end
