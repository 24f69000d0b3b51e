-- ===== PART A: goes FIRST, ahead of the names: the tables' words, and 'selects' of the private methods out of them =====
/-- a private method of a class that the tables say can be made, by its rows of tables_1 -/
def lw_okq (q : MethodName × Nat) : Prop := (q.1.cls ≠ "java/lang/invoke/MethodHandle" ∧ q.1.cls ≠ "java/lang/invoke/VarHandle") ∧ Cond.instantiable q.1.cls q.2 ∈ tables_1 ∧ Cond.privateMethod q.1 ∈ tables_1 ∧ Cond.instanceMethod q.1 ∈ tables_1
theorem lw_p0 : lw_okq (⟨"ClassAnswers", "isBox", "(I)Z"⟩, 12) := ⟨⟨by decide +kernel, by decide +kernel⟩, List.mem_of_getElem? (i := 15) (by decide +kernel), List.mem_of_getElem? (i := 272) (by decide +kernel), List.mem_of_getElem? (i := 273) (by decide +kernel)⟩
theorem lw_p1 : lw_okq (⟨"ClassAnswers$Question", "isOrder", "(I)Z"⟩, 4) := ⟨⟨by decide +kernel, by decide +kernel⟩, List.mem_of_getElem? (i := 25) (by decide +kernel), List.mem_of_getElem? (i := 321) (by decide +kernel), List.mem_of_getElem? (i := 322) (by decide +kernel)⟩
theorem lw_p2 : lw_okq (⟨"ClassAnswers", "isQuiet", "()Z"⟩, 12) := ⟨⟨by decide +kernel, by decide +kernel⟩, List.mem_of_getElem? (i := 15) (by decide +kernel), List.mem_of_getElem? (i := 333) (by decide +kernel), List.mem_of_getElem? (i := 334) (by decide +kernel)⟩
theorem lw_p3 : lw_okq (⟨"ClassAnswers", "isTrying", "(LClassAnswers$Box;)Z"⟩, 12) := ⟨⟨by decide +kernel, by decide +kernel⟩, List.mem_of_getElem? (i := 15) (by decide +kernel), List.mem_of_getElem? (i := 337) (by decide +kernel), List.mem_of_getElem? (i := 338) (by decide +kernel)⟩
theorem lw_p4 : lw_okq (⟨"ClassAnswers", "passTick", "()V"⟩, 12) := ⟨⟨by decide +kernel, by decide +kernel⟩, List.mem_of_getElem? (i := 15) (by decide +kernel), List.mem_of_getElem? (i := 357) (by decide +kernel), List.mem_of_getElem? (i := 358) (by decide +kernel)⟩
theorem lw_p5 : lw_okq (⟨"ClassAnswers", "tryBothRoads", "(I)V"⟩, 12) := ⟨⟨by decide +kernel, by decide +kernel⟩, List.mem_of_getElem? (i := 15) (by decide +kernel), List.mem_of_getElem? (i := 361) (by decide +kernel), List.mem_of_getElem? (i := 362) (by decide +kernel)⟩
theorem lw_p6 : lw_okq (⟨"ClassAnswers$Post", "move", "(II)V"⟩, 7) := ⟨⟨by decide +kernel, by decide +kernel⟩, List.mem_of_getElem? (i := 48) (by decide +kernel), List.mem_of_getElem? (i := 381) (by decide +kernel), List.mem_of_getElem? (i := 382) (by decide +kernel)⟩
theorem lw_p7 : lw_okq (⟨"ClassAnswers", "isShown", "()Z"⟩, 12) := ⟨⟨by decide +kernel, by decide +kernel⟩, List.mem_of_getElem? (i := 15) (by decide +kernel), List.mem_of_getElem? (i := 402) (by decide +kernel), List.mem_of_getElem? (i := 403) (by decide +kernel)⟩
theorem lw_p8 : lw_okq (⟨"ClassAnswers", "countAnswered", "()I"⟩, 12) := ⟨⟨by decide +kernel, by decide +kernel⟩, List.mem_of_getElem? (i := 15) (by decide +kernel), List.mem_of_getElem? (i := 406) (by decide +kernel), List.mem_of_getElem? (i := 407) (by decide +kernel)⟩
theorem lw_p9 : lw_okq (⟨"ClassAnswers", "areResultsShown", "(I)Z"⟩, 12) := ⟨⟨by decide +kernel, by decide +kernel⟩, List.mem_of_getElem? (i := 15) (by decide +kernel), List.mem_of_getElem? (i := 414) (by decide +kernel), List.mem_of_getElem? (i := 415) (by decide +kernel)⟩
theorem lw_p10 : lw_okq (⟨"ClassAnswers$Numbers", "putInOrder", "(I)V"⟩, 4) := ⟨⟨by decide +kernel, by decide +kernel⟩, List.mem_of_getElem? (i := 108) (by decide +kernel), List.mem_of_getElem? (i := 427) (by decide +kernel), List.mem_of_getElem? (i := 428) (by decide +kernel)⟩
theorem lw_p11 : lw_okq (⟨"ClassAnswers$Numbers", "lesserMiddle", "()I"⟩, 4) := ⟨⟨by decide +kernel, by decide +kernel⟩, List.mem_of_getElem? (i := 108) (by decide +kernel), List.mem_of_getElem? (i := 431) (by decide +kernel), List.mem_of_getElem? (i := 432) (by decide +kernel)⟩
theorem lw_p12 : lw_okq (⟨"ClassAnswers$Numbers", "off", "(LClassAnswers$Box;)I"⟩, 4) := ⟨⟨by decide +kernel, by decide +kernel⟩, List.mem_of_getElem? (i := 108) (by decide +kernel), List.mem_of_getElem? (i := 435) (by decide +kernel), List.mem_of_getElem? (i := 436) (by decide +kernel)⟩
theorem lw_p13 : lw_okq (⟨"ClassAnswers$Joiner", "countPairs", "([LClassAnswers$Box;II)V"⟩, 4) := ⟨⟨by decide +kernel, by decide +kernel⟩, List.mem_of_getElem? (i := 129) (by decide +kernel), List.mem_of_getElem? (i := 457) (by decide +kernel), List.mem_of_getElem? (i := 458) (by decide +kernel)⟩
theorem lw_p14 : lw_okq (⟨"ClassAnswers$Joiner", "addPairs", "(II)V"⟩, 4) := ⟨⟨by decide +kernel, by decide +kernel⟩, List.mem_of_getElem? (i := 129) (by decide +kernel), List.mem_of_getElem? (i := 462) (by decide +kernel), List.mem_of_getElem? (i := 463) (by decide +kernel)⟩
theorem lw_p15 : lw_okq (⟨"ClassAnswers$Joiner", "turnedPairs", "(I)I"⟩, 4) := ⟨⟨by decide +kernel, by decide +kernel⟩, List.mem_of_getElem? (i := 129) (by decide +kernel), List.mem_of_getElem? (i := 467) (by decide +kernel), List.mem_of_getElem? (i := 468) (by decide +kernel)⟩
def lw_privs_1 : List (MethodName × Nat) := [(⟨"ClassAnswers", "isBox", "(I)Z"⟩, 12), (⟨"ClassAnswers$Question", "isOrder", "(I)Z"⟩, 4), (⟨"ClassAnswers", "isQuiet", "()Z"⟩, 12), (⟨"ClassAnswers", "isTrying", "(LClassAnswers$Box;)Z"⟩, 12), (⟨"ClassAnswers", "passTick", "()V"⟩, 12), (⟨"ClassAnswers", "tryBothRoads", "(I)V"⟩, 12), (⟨"ClassAnswers$Post", "move", "(II)V"⟩, 7), (⟨"ClassAnswers", "isShown", "()Z"⟩, 12), (⟨"ClassAnswers", "countAnswered", "()I"⟩, 12), (⟨"ClassAnswers", "areResultsShown", "(I)Z"⟩, 12), (⟨"ClassAnswers$Numbers", "putInOrder", "(I)V"⟩, 4), (⟨"ClassAnswers$Numbers", "lesserMiddle", "()I"⟩, 4), (⟨"ClassAnswers$Numbers", "off", "(LClassAnswers$Box;)I"⟩, 4), (⟨"ClassAnswers$Joiner", "countPairs", "([LClassAnswers$Box;II)V"⟩, 4), (⟨"ClassAnswers$Joiner", "addPairs", "(II)V"⟩, 4), (⟨"ClassAnswers$Joiner", "turnedPairs", "(I)I"⟩, 4)]
theorem lw_r1 : ∀ q ∈ lw_privs_1, lw_okq q := List.forall_mem_cons.mpr ⟨lw_p0, List.forall_mem_cons.mpr ⟨lw_p1, List.forall_mem_cons.mpr ⟨lw_p2, List.forall_mem_cons.mpr ⟨lw_p3, List.forall_mem_cons.mpr ⟨lw_p4, List.forall_mem_cons.mpr ⟨lw_p5, List.forall_mem_cons.mpr ⟨lw_p6, List.forall_mem_cons.mpr ⟨lw_p7, List.forall_mem_cons.mpr ⟨lw_p8, List.forall_mem_cons.mpr ⟨lw_p9, List.forall_mem_cons.mpr ⟨lw_p10, List.forall_mem_cons.mpr ⟨lw_p11, List.forall_mem_cons.mpr ⟨lw_p12, List.forall_mem_cons.mpr ⟨lw_p13, List.forall_mem_cons.mpr ⟨lw_p14, List.forall_mem_cons.mpr ⟨lw_p15, fun _ h => absurd h List.not_mem_nil⟩⟩⟩⟩⟩⟩⟩⟩⟩⟩⟩⟩⟩⟩⟩⟩
theorem lw_p16 : lw_okq (⟨"ClassAnswers$Joiner", "asAnswer", "(I)I"⟩, 4) := ⟨⟨by decide +kernel, by decide +kernel⟩, List.mem_of_getElem? (i := 129) (by decide +kernel), List.mem_of_getElem? (i := 471) (by decide +kernel), List.mem_of_getElem? (i := 472) (by decide +kernel)⟩
theorem lw_p17 : lw_okq (⟨"ClassAnswers$Joiner", "layOutNext", "(I)Z"⟩, 4) := ⟨⟨by decide +kernel, by decide +kernel⟩, List.mem_of_getElem? (i := 129) (by decide +kernel), List.mem_of_getElem? (i := 475) (by decide +kernel), List.mem_of_getElem? (i := 476) (by decide +kernel)⟩
theorem lw_p18 : lw_okq (⟨"ClassAnswers$Joiner", "swap", "(II)V"⟩, 4) := ⟨⟨by decide +kernel, by decide +kernel⟩, List.mem_of_getElem? (i := 129) (by decide +kernel), List.mem_of_getElem? (i := 479) (by decide +kernel), List.mem_of_getElem? (i := 480) (by decide +kernel)⟩
theorem lw_p19 : lw_okq (⟨"ClassAnswers", "canBeTeams", "(I)Z"⟩, 12) := ⟨⟨by decide +kernel, by decide +kernel⟩, List.mem_of_getElem? (i := 15) (by decide +kernel), List.mem_of_getElem? (i := 512) (by decide +kernel), List.mem_of_getElem? (i := 513) (by decide +kernel)⟩
theorem lw_p20 : lw_okq (⟨"ClassAnswers", "evenestTeam", "(I)I"⟩, 12) := ⟨⟨by decide +kernel, by decide +kernel⟩, List.mem_of_getElem? (i := 15) (by decide +kernel), List.mem_of_getElem? (i := 516) (by decide +kernel), List.mem_of_getElem? (i := 517) (by decide +kernel)⟩
theorem lw_p21 : lw_okq (⟨"ClassAnswers", "marksApart", "(II)I"⟩, 12) := ⟨⟨by decide +kernel, by decide +kernel⟩, List.mem_of_getElem? (i := 15) (by decide +kernel), List.mem_of_getElem? (i := 525) (by decide +kernel), List.mem_of_getElem? (i := 526) (by decide +kernel)⟩
theorem lw_p22 : lw_okq (⟨"ClassAnswers$Ledger", "having", "(II)I"⟩, 2) := ⟨⟨by decide +kernel, by decide +kernel⟩, List.mem_of_getElem? (i := 78) (by decide +kernel), List.mem_of_getElem? (i := 537) (by decide +kernel), List.mem_of_getElem? (i := 538) (by decide +kernel)⟩
theorem lw_p23 : lw_okq (⟨"ClassAnswersModel", "isBox", "(I)Z"⟩, 32) := ⟨⟨by decide +kernel, by decide +kernel⟩, List.mem_of_getElem? (i := 571) (by decide +kernel), List.mem_of_getElem? (i := 683) (by decide +kernel), List.mem_of_getElem? (i := 684) (by decide +kernel)⟩
theorem lw_p24 : lw_okq (⟨"ClassAnswersModel", "isAnswer", "(I)Z"⟩, 32) := ⟨⟨by decide +kernel, by decide +kernel⟩, List.mem_of_getElem? (i := 571) (by decide +kernel), List.mem_of_getElem? (i := 707) (by decide +kernel), List.mem_of_getElem? (i := 708) (by decide +kernel)⟩
theorem lw_p25 : lw_okq (⟨"ClassAnswersModel", "passes", "()V"⟩, 32) := ⟨⟨by decide +kernel, by decide +kernel⟩, List.mem_of_getElem? (i := 571) (by decide +kernel), List.mem_of_getElem? (i := 715) (by decide +kernel), List.mem_of_getElem? (i := 716) (by decide +kernel)⟩
theorem lw_p26 : lw_okq (⟨"ClassAnswersModel", "tryBy", "(I)V"⟩, 32) := ⟨⟨by decide +kernel, by decide +kernel⟩, List.mem_of_getElem? (i := 571) (by decide +kernel), List.mem_of_getElem? (i := 719) (by decide +kernel), List.mem_of_getElem? (i := 720) (by decide +kernel)⟩
theorem lw_p27 : lw_okq (⟨"ClassAnswersModel", "comes", "(I)V"⟩, 32) := ⟨⟨by decide +kernel, by decide +kernel⟩, List.mem_of_getElem? (i := 571) (by decide +kernel), List.mem_of_getElem? (i := 723) (by decide +kernel), List.mem_of_getElem? (i := 724) (by decide +kernel)⟩
theorem lw_p28 : lw_okq (⟨"ClassAnswersModel", "answerOf", "(I)I"⟩, 32) := ⟨⟨by decide +kernel, by decide +kernel⟩, List.mem_of_getElem? (i := 571) (by decide +kernel), List.mem_of_getElem? (i := 735) (by decide +kernel), List.mem_of_getElem? (i := 736) (by decide +kernel)⟩
theorem lw_p29 : lw_okq (⟨"ClassAnswersModel", "isShown", "()Z"⟩, 32) := ⟨⟨by decide +kernel, by decide +kernel⟩, List.mem_of_getElem? (i := 571) (by decide +kernel), List.mem_of_getElem? (i := 743) (by decide +kernel), List.mem_of_getElem? (i := 744) (by decide +kernel)⟩
theorem lw_p30 : lw_okq (⟨"ClassAnswersModel", "many", "()I"⟩, 32) := ⟨⟨by decide +kernel, by decide +kernel⟩, List.mem_of_getElem? (i := 571) (by decide +kernel), List.mem_of_getElem? (i := 747) (by decide +kernel), List.mem_of_getElem? (i := 748) (by decide +kernel)⟩
theorem lw_p31 : lw_okq (⟨"ClassAnswersModel", "isShownOf", "(I)Z"⟩, 32) := ⟨⟨by decide +kernel, by decide +kernel⟩, List.mem_of_getElem? (i := 571) (by decide +kernel), List.mem_of_getElem? (i := 755) (by decide +kernel), List.mem_of_getElem? (i := 756) (by decide +kernel)⟩
def lw_privs_2 : List (MethodName × Nat) := [(⟨"ClassAnswers$Joiner", "asAnswer", "(I)I"⟩, 4), (⟨"ClassAnswers$Joiner", "layOutNext", "(I)Z"⟩, 4), (⟨"ClassAnswers$Joiner", "swap", "(II)V"⟩, 4), (⟨"ClassAnswers", "canBeTeams", "(I)Z"⟩, 12), (⟨"ClassAnswers", "evenestTeam", "(I)I"⟩, 12), (⟨"ClassAnswers", "marksApart", "(II)I"⟩, 12), (⟨"ClassAnswers$Ledger", "having", "(II)I"⟩, 2), (⟨"ClassAnswersModel", "isBox", "(I)Z"⟩, 32), (⟨"ClassAnswersModel", "isAnswer", "(I)Z"⟩, 32), (⟨"ClassAnswersModel", "passes", "()V"⟩, 32), (⟨"ClassAnswersModel", "tryBy", "(I)V"⟩, 32), (⟨"ClassAnswersModel", "comes", "(I)V"⟩, 32), (⟨"ClassAnswersModel", "answerOf", "(I)I"⟩, 32), (⟨"ClassAnswersModel", "isShown", "()Z"⟩, 32), (⟨"ClassAnswersModel", "many", "()I"⟩, 32), (⟨"ClassAnswersModel", "isShownOf", "(I)Z"⟩, 32)]
theorem lw_r2 : ∀ q ∈ lw_privs_2, lw_okq q := List.forall_mem_cons.mpr ⟨lw_p16, List.forall_mem_cons.mpr ⟨lw_p17, List.forall_mem_cons.mpr ⟨lw_p18, List.forall_mem_cons.mpr ⟨lw_p19, List.forall_mem_cons.mpr ⟨lw_p20, List.forall_mem_cons.mpr ⟨lw_p21, List.forall_mem_cons.mpr ⟨lw_p22, List.forall_mem_cons.mpr ⟨lw_p23, List.forall_mem_cons.mpr ⟨lw_p24, List.forall_mem_cons.mpr ⟨lw_p25, List.forall_mem_cons.mpr ⟨lw_p26, List.forall_mem_cons.mpr ⟨lw_p27, List.forall_mem_cons.mpr ⟨lw_p28, List.forall_mem_cons.mpr ⟨lw_p29, List.forall_mem_cons.mpr ⟨lw_p30, List.forall_mem_cons.mpr ⟨lw_p31, fun _ h => absurd h List.not_mem_nil⟩⟩⟩⟩⟩⟩⟩⟩⟩⟩⟩⟩⟩⟩⟩⟩
theorem lw_p32 : lw_okq (⟨"ClassAnswersModel", "middle", "(I)I"⟩, 32) := ⟨⟨by decide +kernel, by decide +kernel⟩, List.mem_of_getElem? (i := 571) (by decide +kernel), List.mem_of_getElem? (i := 763) (by decide +kernel), List.mem_of_getElem? (i := 764) (by decide +kernel)⟩
theorem lw_p33 : lw_okq (⟨"ClassAnswersModel", "turned", "(I)I"⟩, 32) := ⟨⟨by decide +kernel, by decide +kernel⟩, List.mem_of_getElem? (i := 571) (by decide +kernel), List.mem_of_getElem? (i := 774) (by decide +kernel), List.mem_of_getElem? (i := 775) (by decide +kernel)⟩
theorem lw_p34 : lw_okq (⟨"ClassAnswersModel", "place", "(II)I"⟩, 32) := ⟨⟨by decide +kernel, by decide +kernel⟩, List.mem_of_getElem? (i := 571) (by decide +kernel), List.mem_of_getElem? (i := 778) (by decide +kernel), List.mem_of_getElem? (i := 779) (by decide +kernel)⟩
theorem lw_p35 : lw_okq (⟨"ClassAnswersModel", "marksOf", "(I)I"⟩, 32) := ⟨⟨by decide +kernel, by decide +kernel⟩, List.mem_of_getElem? (i := 571) (by decide +kernel), List.mem_of_getElem? (i := 797) (by decide +kernel), List.mem_of_getElem? (i := 798) (by decide +kernel)⟩
theorem lw_p36 : lw_okq (⟨"ClassAnswersModel", "marksIn", "(I)I"⟩, 32) := ⟨⟨by decide +kernel, by decide +kernel⟩, List.mem_of_getElem? (i := 571) (by decide +kernel), List.mem_of_getElem? (i := 808) (by decide +kernel), List.mem_of_getElem? (i := 809) (by decide +kernel)⟩
def lw_privs_3 : List (MethodName × Nat) := [(⟨"ClassAnswersModel", "middle", "(I)I"⟩, 32), (⟨"ClassAnswersModel", "turned", "(I)I"⟩, 32), (⟨"ClassAnswersModel", "place", "(II)I"⟩, 32), (⟨"ClassAnswersModel", "marksOf", "(I)I"⟩, 32), (⟨"ClassAnswersModel", "marksIn", "(I)I"⟩, 32)]
theorem lw_r3 : ∀ q ∈ lw_privs_3, lw_okq q := List.forall_mem_cons.mpr ⟨lw_p32, List.forall_mem_cons.mpr ⟨lw_p33, List.forall_mem_cons.mpr ⟨lw_p34, List.forall_mem_cons.mpr ⟨lw_p35, List.forall_mem_cons.mpr ⟨lw_p36, fun _ h => absurd h List.not_mem_nil⟩⟩⟩⟩⟩
def lw_privs : List (MethodName × Nat) := lw_privs_1 ++ (lw_privs_2 ++ (lw_privs_3))
def lw_tbl : List Cond := k2_sels lw_privs ++ tables_1
theorem lw_privs_ok : ∀ q ∈ lw_privs, lw_okq q := by
  show ∀ q ∈ lw_privs_1 ++ (lw_privs_2 ++ (lw_privs_3)), lw_okq q
  exact List.forall_mem_append.mpr ⟨lw_r1, List.forall_mem_append.mpr ⟨lw_r2, lw_r3⟩⟩

/-! ===== BEGIN words of one list among another's, by their places ===== -/
theorem goodIn_r {big : List Cond} (ws : List Cond) (ps : List Nat) (hp : ws = ps.filterMap (fun i => big[i]?)) (h : ws.all goodWord = true) : GoodIn big ws := by
  intro w hw
  have h1 := List.all_eq_true.mp h w hw
  rw [hp] at hw
  obtain ⟨i, -, hi⟩ := List.mem_filterMap.mp hw
  have hm : w ∈ big := by first | exact List.mem_of_getElem? hi | exact List.getElem?_mem hi
  exact ⟨hm, good_of_word h1⟩
theorem goodIn_app {big a b : List Cond} (ha : GoodIn big a) (hb : GoodIn big b) : GoodIn big (a ++ b) := fun w h => (List.mem_append.mp h).elim (ha w) (hb w)
theorem goodIn_ca {big a b : List Cond} {c : Cond} (ha : GoodIn big (c :: a)) (hb : GoodIn big b) : GoodIn big (c :: (a ++ b)) := fun w h => (List.mem_cons.mp h).elim (fun e => ha w (List.mem_cons.mpr (Or.inl e))) (fun h => (List.mem_append.mp h).elim (fun h => ha w (List.mem_cons.mpr (Or.inr h))) (hb w))
theorem goodIn_sub {big ws : List Cond} (hm : ∀ w ∈ ws, w ∈ big) (h : ws.all goodWord = true) : GoodIn big ws := fun w hw => ⟨hm w hw, good_of_word (List.all_eq_true.mp h w hw)⟩
/-! ===== END ===== -/

def RX0 : String := "ClassAnswers$Box"
def TX0 : u_T := fun k => match k with
  | 0 => ("ClassAnswers$Box", "roads", "[LClassAnswers$Road;", true)
  | 1 => ("ClassAnswers$Box", "kept", "[LClassAnswers$Kept;", true)
  | 2 => ("ClassAnswers$Box", "sends", "I", false)
  | 3 => ("ClassAnswers$Box", "latest", "I", false)
  | 4 => ("ClassAnswers$Box", "sentIn", "I", false)
  | 5 => ("ClassAnswers$Box", "rounds", "I", false)
  | _ => ("ClassAnswers$Box", "rightOnes", "I", false)
def tyX0 : Nat → FieldType := fun k => match k with
  | 0 => .array (.object "ClassAnswers$Road")
  | 1 => .array (.object "ClassAnswers$Kept")
  | 2 => .int
  | 3 => .int
  | 4 => .int
  | 5 => .int
  | _ => .int
abbrev wsX00 : List Cond := u_ws RX0 TX0 7
theorem nmX0 : ∀ a, a < 7 → ∀ b, b < 7 → a ≠ b → (TX0 a).2.1 ≠ (TX0 b).2.1 := by decide +kernel
theorem tyX0_ok : ∀ k, k < 7 → parseFieldDescriptor (TX0 k).2.2.1 = some (tyX0 k) := by decide +kernel
abbrev cX0_init : ByteArray := prog_2_method_1_code
def yX0_init : MethodName := ⟨RX0, "<init>", "()V"⟩
abbrev cX0_forget : ByteArray := prog_2_method_2_code
def yX0_forget : MethodName := ⟨RX0, "forget", "()V"⟩
abbrev cX0_write : ByteArray := prog_2_method_3_code
def yX0_write : MethodName := ⟨RX0, "write", "(II)I"⟩
abbrev cX0_hasTriesLeft : ByteArray := prog_2_method_4_code
def yX0_hasTriesLeft : MethodName := ⟨RX0, "hasTriesLeft", "()Z"⟩
abbrev cX0_isAcknowledged : ByteArray := prog_2_method_5_code
def yX0_isAcknowledged : MethodName := ⟨RX0, "isAcknowledged", "()Z"⟩
abbrev cX0_countedAnswer : ByteArray := prog_2_method_6_code
def yX0_countedAnswer : MethodName := ⟨RX0, "countedAnswer", "()I"⟩
def RX1 : String := "ClassAnswers$Joiner"
def TX1 : u_T := fun k => match k with
  | 0 => ("ClassAnswers$Joiner", "ahead", "[[I", true)
  | 1 => ("ClassAnswers$Joiner", "row", "[I", true)
  | 2 => ("ClassAnswers$Joiner", "joined", "I", false)
  | _ => ("ClassAnswers$Joiner", "turned", "I", false)
def tyX1 : Nat → FieldType := fun k => match k with
  | 0 => .array (.array .int)
  | 1 => .array .int
  | 2 => .int
  | _ => .int
abbrev wsX10 : List Cond := u_ws RX1 TX1 4
theorem nmX1 : ∀ a, a < 4 → ∀ b, b < 4 → a ≠ b → (TX1 a).2.1 ≠ (TX1 b).2.1 := by decide +kernel
theorem tyX1_ok : ∀ k, k < 4 → parseFieldDescriptor (TX1 k).2.2.1 = some (tyX1 k) := by decide +kernel
abbrev cX1_init : ByteArray := prog_3_method_1_code
def yX1_init : MethodName := ⟨RX1, "<init>", "()V"⟩
abbrev cX1_join : ByteArray := prog_3_method_2_code
def yX1_join : MethodName := ⟨RX1, "join", "([LClassAnswers$Box;II)V"⟩
abbrev cX1_countPairs : ByteArray := prog_3_method_3_code
def yX1_countPairs : MethodName := ⟨RX1, "countPairs", "([LClassAnswers$Box;II)V"⟩
abbrev cX1_addPairs : ByteArray := prog_3_method_4_code
def yX1_addPairs : MethodName := ⟨RX1, "addPairs", "(II)V"⟩
abbrev cX1_layOutNext : ByteArray := prog_3_method_5_code
def yX1_layOutNext : MethodName := ⟨RX1, "layOutNext", "(I)Z"⟩
abbrev cX1_swap : ByteArray := prog_3_method_6_code
def yX1_swap : MethodName := ⟨RX1, "swap", "(II)V"⟩
abbrev cX1_turnedPairs : ByteArray := prog_3_method_7_code
def yX1_turnedPairs : MethodName := ⟨RX1, "turnedPairs", "(I)I"⟩
abbrev cX1_asAnswer : ByteArray := prog_3_method_8_code
def yX1_asAnswer : MethodName := ⟨RX1, "asAnswer", "(I)I"⟩
def RX2 : String := "ClassAnswers$Kept"
def TX2 : u_T := fun k => match k with
  | 0 => ("ClassAnswers$Kept", "inTimeAnswer", "I", false)
  | 1 => ("ClassAnswers$Kept", "inTimeCount", "I", false)
  | _ => ("ClassAnswers$Kept", "lateCount", "I", false)
def tyX2 : Nat → FieldType := fun k => match k with
  | 0 => .int
  | 1 => .int
  | _ => .int
abbrev wsX20 : List Cond := u_ws RX2 TX2 3
theorem nmX2 : ∀ a, a < 3 → ∀ b, b < 3 → a ≠ b → (TX2 a).2.1 ≠ (TX2 b).2.1 := by decide +kernel
theorem tyX2_ok : ∀ k, k < 3 → parseFieldDescriptor (TX2 k).2.2.1 = some (tyX2 k) := by decide +kernel
abbrev cX2_init : ByteArray := prog_4_method_1_code
def yX2_init : MethodName := ⟨RX2, "<init>", "()V"⟩
abbrev cX2_forget : ByteArray := prog_4_method_2_code
def yX2_forget : MethodName := ⟨RX2, "forget", "()V"⟩
abbrev cX2_take : ByteArray := prog_4_method_3_code
def yX2_take : MethodName := ⟨RX2, "take", "(IIZ)V"⟩
abbrev cX2_greatestCount : ByteArray := prog_4_method_4_code
def yX2_greatestCount : MethodName := ⟨RX2, "greatestCount", "()I"⟩
def RX3 : String := "ClassAnswers$Ledger"
def TX3 : u_T := fun k => match k with
  | 0 => ("ClassAnswers$Ledger", "pages", "[[I", true)
  | _ => ("ClassAnswers$Ledger", "size", "I", false)
def tyX3 : Nat → FieldType := fun k => match k with
  | 0 => .array (.array .int)
  | _ => .int
abbrev wsX30 : List Cond := u_ws RX3 TX3 2
theorem nmX3 : ∀ a, a < 2 → ∀ b, b < 2 → a ≠ b → (TX3 a).2.1 ≠ (TX3 b).2.1 := by decide +kernel
theorem tyX3_ok : ∀ k, k < 2 → parseFieldDescriptor (TX3 k).2.2.1 = some (tyX3 k) := by decide +kernel
abbrev cX3_init : ByteArray := prog_5_method_1_code
def yX3_init : MethodName := ⟨RX3, "<init>", "()V"⟩
abbrev cX3_isFull : ByteArray := prog_5_method_2_code
def yX3_isFull : MethodName := ⟨RX3, "isFull", "()Z"⟩
abbrev cX3_enter : ByteArray := prog_5_method_3_code
def yX3_enter : MethodName := ⟨RX3, "enter", "([LClassAnswers$Box;II)I"⟩
abbrev cX3_judge : ByteArray := prog_5_method_4_code
def yX3_judge : MethodName := ⟨RX3, "judge", "(II)I"⟩
abbrev cX3_bestPage : ByteArray := prog_5_method_5_code
def yX3_bestPage : MethodName := ⟨RX3, "bestPage", "()I"⟩
abbrev cX3_having : ByteArray := prog_5_method_6_code
def yX3_having : MethodName := ⟨RX3, "having", "(II)I"⟩
def RX4 : String := "ClassAnswers$Lots"
def TX4 : u_T := fun k => match k with
  | 0 => ("ClassAnswers$Lots", "state", "J", false)
  | _ => ("ClassAnswers$Lots", "drawn", "I", false)
def tyX4 : Nat → FieldType := fun k => match k with
  | 0 => .long
  | _ => .int
abbrev wsX40 : List Cond := u_ws RX4 TX4 2
theorem nmX4 : ∀ a, a < 2 → ∀ b, b < 2 → a ≠ b → (TX4 a).2.1 ≠ (TX4 b).2.1 := by decide +kernel
theorem tyX4_ok : ∀ k, k < 2 → parseFieldDescriptor (TX4 k).2.2.1 = some (tyX4 k) := by decide +kernel
abbrev cX4_init : ByteArray := prog_6_method_1_code
def yX4_init : MethodName := ⟨RX4, "<init>", "()V"⟩
abbrev cX4_begin : ByteArray := prog_6_method_2_code
def yX4_begin : MethodName := ⟨RX4, "begin", "(I)V"⟩
abbrev cX4_next : ByteArray := prog_6_method_3_code
def yX4_next : MethodName := ⟨RX4, "next", "(I)I"⟩
def RX5 : String := "ClassAnswers$Numbers"
def TX5 : u_T := fun k => match k with
  | 0 => ("ClassAnswers$Numbers", "row", "[I", true)
  | 1 => ("ClassAnswers$Numbers", "filled", "I", false)
  | 2 => ("ClassAnswers$Numbers", "middle", "I", false)
  | _ => ("ClassAnswers$Numbers", "oddBoxes", "I", false)
def tyX5 : Nat → FieldType := fun k => match k with
  | 0 => .array .int
  | 1 => .int
  | 2 => .int
  | _ => .int
abbrev wsX50 : List Cond := u_ws RX5 TX5 4
theorem nmX5 : ∀ a, a < 4 → ∀ b, b < 4 → a ≠ b → (TX5 a).2.1 ≠ (TX5 b).2.1 := by decide +kernel
theorem tyX5_ok : ∀ k, k < 4 → parseFieldDescriptor (TX5 k).2.2.1 = some (tyX5 k) := by decide +kernel
abbrev cX5_init : ByteArray := prog_7_method_1_code
def yX5_init : MethodName := ⟨RX5, "<init>", "()V"⟩
abbrev cX5_look : ByteArray := prog_7_method_2_code
def yX5_look : MethodName := ⟨RX5, "look", "([LClassAnswers$Box;I)V"⟩
abbrev cX5_off : ByteArray := prog_7_method_3_code
def yX5_off : MethodName := ⟨RX5, "off", "(LClassAnswers$Box;)I"⟩
abbrev cX5_lesserMiddle : ByteArray := prog_7_method_4_code
def yX5_lesserMiddle : MethodName := ⟨RX5, "lesserMiddle", "()I"⟩
abbrev cX5_putInOrder : ByteArray := prog_7_method_5_code
def yX5_putInOrder : MethodName := ⟨RX5, "putInOrder", "(I)V"⟩
def RX6 : String := "ClassAnswers$Post"
def TX6 : u_T := fun k => match k with
  | 0 => ("ClassAnswers$Post", "dueIn", "[I", true)
  | 1 => ("ClassAnswers$Post", "fromBox", "[I", true)
  | 2 => ("ClassAnswers$Post", "toBase", "[I", true)
  | 3 => ("ClassAnswers$Post", "answerIn", "[I", true)
  | 4 => ("ClassAnswers$Post", "countIn", "[I", true)
  | 5 => ("ClassAnswers$Post", "sentIn", "[I", true)
  | _ => ("ClassAnswers$Post", "underWay", "I", false)
def tyX6 : Nat → FieldType := fun k => match k with
  | 0 => .array .int
  | 1 => .array .int
  | 2 => .array .int
  | 3 => .array .int
  | 4 => .array .int
  | 5 => .array .int
  | _ => .int
abbrev wsX60 : List Cond := u_ws RX6 TX6 7
theorem nmX6 : ∀ a, a < 7 → ∀ b, b < 7 → a ≠ b → (TX6 a).2.1 ≠ (TX6 b).2.1 := by decide +kernel
theorem tyX6_ok : ∀ k, k < 7 → parseFieldDescriptor (TX6 k).2.2.1 = some (tyX6 k) := by decide +kernel
abbrev cX6_init : ByteArray := prog_8_method_1_code
def yX6_init : MethodName := ⟨RX6, "<init>", "()V"⟩
abbrev cX6_put : ByteArray := prog_8_method_2_code
def yX6_put : MethodName := ⟨RX6, "put", "(IIILClassAnswers$Box;)V"⟩
abbrev cX6_bringWhatIsDue : ByteArray := prog_8_method_3_code
def yX6_bringWhatIsDue : MethodName := ⟨RX6, "bringWhatIsDue", "(II[LClassAnswers$Box;)V"⟩
abbrev cX6_move : ByteArray := prog_8_method_4_code
def yX6_move : MethodName := ⟨RX6, "move", "(II)V"⟩
def RX7 : String := "ClassAnswers$Question"
def TX7 : u_T := fun k => match k with
  | 0 => ("ClassAnswers$Question", "asked", "Z", false)
  | 1 => ("ClassAnswers$Question", "kind", "I", false)
  | 2 => ("ClassAnswers$Question", "things", "I", false)
  | _ => ("ClassAnswers$Question", "bell", "I", false)
def tyX7 : Nat → FieldType := fun k => match k with
  | 0 => .boolean
  | 1 => .int
  | 2 => .int
  | _ => .int
abbrev wsX70 : List Cond := u_ws RX7 TX7 4
theorem nmX7 : ∀ a, a < 4 → ∀ b, b < 4 → a ≠ b → (TX7 a).2.1 ≠ (TX7 b).2.1 := by decide +kernel
theorem tyX7_ok : ∀ k, k < 4 → parseFieldDescriptor (TX7 k).2.2.1 = some (tyX7 k) := by decide +kernel
abbrev cX7_init : ByteArray := prog_9_method_1_code
def yX7_init : MethodName := ⟨RX7, "<init>", "()V"⟩
abbrev cX7_isKind : ByteArray := prog_9_method_2_code
def yX7_isKind : MethodName := ⟨RX7, "isKind", "(II)Z"⟩
abbrev cX7_begin : ByteArray := prog_9_method_3_code
def yX7_begin : MethodName := ⟨RX7, "begin", "(III)V"⟩
abbrev cX7_takes : ByteArray := prog_9_method_4_code
def yX7_takes : MethodName := ⟨RX7, "takes", "(I)Z"⟩
abbrev cX7_isOrder : ByteArray := prog_9_method_5_code
def yX7_isOrder : MethodName := ⟨RX7, "isOrder", "(I)Z"⟩
def RX8 : String := "ClassAnswers$Road"
def TX8 : u_T := fun k => match k with
  | 0 => ("ClassAnswers$Road", "bits", "I", false)
  | 1 => ("ClassAnswers$Road", "place", "I", false)
  | _ => ("ClassAnswers$Road", "delay", "I", false)
def tyX8 : Nat → FieldType := fun k => match k with
  | 0 => .int
  | 1 => .int
  | _ => .int
abbrev wsX80 : List Cond := u_ws RX8 TX8 3
theorem nmX8 : ∀ a, a < 3 → ∀ b, b < 3 → a ≠ b → (TX8 a).2.1 ≠ (TX8 b).2.1 := by decide +kernel
theorem tyX8_ok : ∀ k, k < 3 → parseFieldDescriptor (TX8 k).2.2.1 = some (tyX8 k) := by decide +kernel
abbrev cX8_init : ByteArray := prog_10_method_1_code
def yX8_init : MethodName := ⟨RX8, "<init>", "()V"⟩
abbrev cX8_lay : ByteArray := prog_10_method_2_code
def yX8_lay : MethodName := ⟨RX8, "lay", "(II)V"⟩
abbrev cX8_losesNext : ByteArray := prog_10_method_3_code
def yX8_losesNext : MethodName := ⟨RX8, "losesNext", "()Z"⟩
def RX9 : String := "ClassAnswers"
def TX9 : u_T := fun k => match k with
  | 0 => ("ClassAnswers", "boxes", "[LClassAnswers$Box;", true)
  | 1 => ("ClassAnswers", "boxCount", "I", false)
  | 2 => ("ClassAnswers", "tick", "I", false)
  | 3 => ("ClassAnswers", "hidden", "I", false)
  | 4 => ("ClassAnswers", "least", "I", false)
  | 5 => ("ClassAnswers", "triesMade", "I", false)
  | 6 => ("ClassAnswers", "question", "LClassAnswers$Question;", true)
  | 7 => ("ClassAnswers", "post", "LClassAnswers$Post;", true)
  | 8 => ("ClassAnswers", "ledger", "LClassAnswers$Ledger;", true)
  | 9 => ("ClassAnswers", "lots", "LClassAnswers$Lots;", true)
  | 10 => ("ClassAnswers", "numbers", "LClassAnswers$Numbers;", true)
  | _ => ("ClassAnswers", "joiner", "LClassAnswers$Joiner;", true)
def tyX9 : Nat → FieldType := fun k => match k with
  | 0 => .array (.object "ClassAnswers$Box")
  | 1 => .int
  | 2 => .int
  | 3 => .int
  | 4 => .int
  | 5 => .int
  | 6 => .object "ClassAnswers$Question"
  | 7 => .object "ClassAnswers$Post"
  | 8 => .object "ClassAnswers$Ledger"
  | 9 => .object "ClassAnswers$Lots"
  | 10 => .object "ClassAnswers$Numbers"
  | _ => .object "ClassAnswers$Joiner"
abbrev wsX90 : List Cond := u_ws RX9 TX9 12
theorem nmX9 : ∀ a, a < 12 → ∀ b, b < 12 → a ≠ b → (TX9 a).2.1 ≠ (TX9 b).2.1 := by decide +kernel
theorem tyX9_ok : ∀ k, k < 12 → parseFieldDescriptor (TX9 k).2.2.1 = some (tyX9 k) := by decide +kernel
abbrev cX9_init : ByteArray := prog_1_method_1_code
def yX9_init : MethodName := ⟨RX9, "<init>", "()V"⟩
abbrev cX9_box : ByteArray := prog_1_method_2_code
def yX9_box : MethodName := ⟨RX9, "box", "()I"⟩
abbrev cX9_road : ByteArray := prog_1_method_3_code
def yX9_road : MethodName := ⟨RX9, "road", "(IIII)I"⟩
abbrev cX9_rule : ByteArray := prog_1_method_4_code
def yX9_rule : MethodName := ⟨RX9, "rule", "(II)I"⟩
abbrev cX9_ask : ByteArray := prog_1_method_5_code
def yX9_ask : MethodName := ⟨RX9, "ask", "(III)I"⟩
abbrev cX9_send : ByteArray := prog_1_method_6_code
def yX9_send : MethodName := ⟨RX9, "send", "(II)I"⟩
abbrev cX9_ticks : ByteArray := prog_1_method_7_code
def yX9_ticks : MethodName := ⟨RX9, "ticks", "(I)I"⟩
abbrev cX9_isQuiet : ByteArray := prog_1_method_8_code
def yX9_isQuiet : MethodName := ⟨RX9, "isQuiet", "()Z"⟩
abbrev cX9_passTick : ByteArray := prog_1_method_9_code
def yX9_passTick : MethodName := ⟨RX9, "passTick", "()V"⟩
abbrev cX9_isTrying : ByteArray := prog_1_method_10_code
def yX9_isTrying : MethodName := ⟨RX9, "isTrying", "(LClassAnswers$Box;)Z"⟩
abbrev cX9_tryBothRoads : ByteArray := prog_1_method_11_code
def yX9_tryBothRoads : MethodName := ⟨RX9, "tryBothRoads", "(I)V"⟩
abbrev cX9_base : ByteArray := prog_1_method_12_code
def yX9_base : MethodName := ⟨RX9, "base", "(III)I"⟩
abbrev cX9_about : ByteArray := prog_1_method_13_code
def yX9_about : MethodName := ⟨RX9, "about", "(II)I"⟩
abbrev cX9_answers : ByteArray := prog_1_method_14_code
def yX9_answers : MethodName := ⟨RX9, "answers", "()I"⟩
abbrev cX9_share : ByteArray := prog_1_method_15_code
def yX9_share : MethodName := ⟨RX9, "share", "(I)I"⟩
abbrev cX9_number : ByteArray := prog_1_method_16_code
def yX9_number : MethodName := ⟨RX9, "number", "(I)I"⟩
abbrev cX9_order : ByteArray := prog_1_method_17_code
def yX9_order : MethodName := ⟨RX9, "order", "(I)I"⟩
abbrev cX9_isShown : ByteArray := prog_1_method_18_code
def yX9_isShown : MethodName := ⟨RX9, "isShown", "()Z"⟩
abbrev cX9_areResultsShown : ByteArray := prog_1_method_19_code
def yX9_areResultsShown : MethodName := ⟨RX9, "areResultsShown", "(I)Z"⟩
abbrev cX9_countAnswered : ByteArray := prog_1_method_20_code
def yX9_countAnswered : MethodName := ⟨RX9, "countAnswered", "()I"⟩
abbrev cX9_close : ByteArray := prog_1_method_21_code
def yX9_close : MethodName := ⟨RX9, "close", "(I)I"⟩
abbrev cX9_book : ByteArray := prog_1_method_22_code
def yX9_book : MethodName := ⟨RX9, "book", "(II)I"⟩
abbrev cX9_marks : ByteArray := prog_1_method_23_code
def yX9_marks : MethodName := ⟨RX9, "marks", "(I)I"⟩
abbrev cX9_teams : ByteArray := prog_1_method_24_code
def yX9_teams : MethodName := ⟨RX9, "teams", "(II)I"⟩
abbrev cX9_canBeTeams : ByteArray := prog_1_method_25_code
def yX9_canBeTeams : MethodName := ⟨RX9, "canBeTeams", "(I)Z"⟩
abbrev cX9_evenestTeam : ByteArray := prog_1_method_26_code
def yX9_evenestTeam : MethodName := ⟨RX9, "evenestTeam", "(I)I"⟩
abbrev cX9_marksApart : ByteArray := prog_1_method_27_code
def yX9_marksApart : MethodName := ⟨RX9, "marksApart", "(II)I"⟩
abbrev cX9_best : ByteArray := prog_1_method_28_code
def yX9_best : MethodName := ⟨RX9, "best", "()I"⟩
abbrev cX9_seed : ByteArray := prog_1_method_29_code
def yX9_seed : MethodName := ⟨RX9, "seed", "(I)I"⟩
abbrev cX9_draw : ByteArray := prog_1_method_30_code
def yX9_draw : MethodName := ⟨RX9, "draw", "()I"⟩
abbrev cX9_count : ByteArray := prog_1_method_31_code
def yX9_count : MethodName := ⟨RX9, "count", "(I)I"⟩
abbrev cX9_isBox : ByteArray := prog_1_method_32_code
def yX9_isBox : MethodName := ⟨RX9, "isBox", "(I)Z"⟩
abbrev cX9_isBase : ByteArray := prog_1_method_33_code
def yX9_isBase : MethodName := ⟨RX9, "isBase", "(I)Z"⟩
abbrev cX9_isWithin : ByteArray := prog_1_method_34_code
def yX9_isWithin : MethodName := ⟨RX9, "isWithin", "(III)Z"⟩
abbrev cX9_clearBit : ByteArray := prog_1_method_35_code
def yX9_clearBit : MethodName := ⟨RX9, "clearBit", "(III)I"⟩
def RX10 : String := "ClassAnswersModel"
def TX10 : u_T := fun k => match k with
  | 0 => ("ClassAnswersModel", "boxes", "I", false)
  | 1 => ("ClassAnswersModel", "tick", "I", false)
  | 2 => ("ClassAnswersModel", "bits", "[I", true)
  | 3 => ("ClassAnswersModel", "delay", "[I", true)
  | 4 => ("ClassAnswersModel", "at", "[I", true)
  | 5 => ("ClassAnswersModel", "tries", "[I", true)
  | 6 => ("ClassAnswersModel", "hidden", "Z", false)
  | 7 => ("ClassAnswersModel", "least", "I", false)
  | 8 => ("ClassAnswersModel", "asked", "Z", false)
  | 9 => ("ClassAnswersModel", "kind", "I", false)
  | 10 => ("ClassAnswersModel", "things", "I", false)
  | 11 => ("ClassAnswersModel", "bell", "I", false)
  | 12 => ("ClassAnswersModel", "count", "[I", true)
  | 13 => ("ClassAnswersModel", "answer", "[I", true)
  | 14 => ("ClassAnswersModel", "sent", "[I", true)
  | 15 => ("ClassAnswersModel", "isKnown", "[Z", true)
  | 16 => ("ClassAnswersModel", "kept", "[I", true)
  | 17 => ("ClassAnswersModel", "inTime", "[I", true)
  | 18 => ("ClassAnswersModel", "late", "[I", true)
  | 19 => ("ClassAnswersModel", "greatest", "[I", true)
  | 20 => ("ClassAnswersModel", "letters", "I", false)
  | 21 => ("ClassAnswersModel", "due", "[I", true)
  | 22 => ("ClassAnswersModel", "from", "[I", true)
  | 23 => ("ClassAnswersModel", "letterCount", "[I", true)
  | 24 => ("ClassAnswersModel", "letterAnswer", "[I", true)
  | 25 => ("ClassAnswersModel", "letterSent", "[I", true)
  | 26 => ("ClassAnswersModel", "allTries", "I", false)
  | 27 => ("ClassAnswersModel", "questions", "I", false)
  | 28 => ("ClassAnswersModel", "book", "[I", true)
  | 29 => ("ClassAnswersModel", "seed", "J", false)
  | 30 => ("ClassAnswersModel", "drawn", "I", false)
  | _ => ("ClassAnswersModel", "row", "[I", true)
def tyX10 : Nat → FieldType := fun k => match k with
  | 0 => .int
  | 1 => .int
  | 2 => .array .int
  | 3 => .array .int
  | 4 => .array .int
  | 5 => .array .int
  | 6 => .boolean
  | 7 => .int
  | 8 => .boolean
  | 9 => .int
  | 10 => .int
  | 11 => .int
  | 12 => .array .int
  | 13 => .array .int
  | 14 => .array .int
  | 15 => .array .boolean
  | 16 => .array .int
  | 17 => .array .int
  | 18 => .array .int
  | 19 => .array .int
  | 20 => .int
  | 21 => .array .int
  | 22 => .array .int
  | 23 => .array .int
  | 24 => .array .int
  | 25 => .array .int
  | 26 => .int
  | 27 => .int
  | 28 => .array .int
  | 29 => .long
  | 30 => .int
  | _ => .array .int
abbrev wsX100 : List Cond := u_ws RX10 TX10 32
theorem nmX10 : ∀ a, a < 32 → ∀ b, b < 32 → a ≠ b → (TX10 a).2.1 ≠ (TX10 b).2.1 := by decide +kernel
theorem tyX10_ok : ∀ k, k < 32 → parseFieldDescriptor (TX10 k).2.2.1 = some (tyX10 k) := by decide +kernel
abbrev cX10_init : ByteArray := prog_12_method_1_code
def yX10_init : MethodName := ⟨RX10, "<init>", "()V"⟩
abbrev cX10_in : ByteArray := prog_12_method_2_code
def yX10_in : MethodName := ⟨RX10, "in", "(III)Z"⟩
abbrev cX10_isBox : ByteArray := prog_12_method_3_code
def yX10_isBox : MethodName := ⟨RX10, "isBox", "(I)Z"⟩
abbrev cX10_isBase : ByteArray := prog_12_method_4_code
def yX10_isBase : MethodName := ⟨RX10, "isBase", "(I)Z"⟩
abbrev cX10_box : ByteArray := prog_12_method_5_code
def yX10_box : MethodName := ⟨RX10, "box", "()I"⟩
abbrev cX10_road : ByteArray := prog_12_method_6_code
def yX10_road : MethodName := ⟨RX10, "road", "(IIII)I"⟩
abbrev cX10_rule : ByteArray := prog_12_method_7_code
def yX10_rule : MethodName := ⟨RX10, "rule", "(II)I"⟩
abbrev cX10_ask : ByteArray := prog_12_method_8_code
def yX10_ask : MethodName := ⟨RX10, "ask", "(III)I"⟩
abbrev cX10_isAnswer : ByteArray := prog_12_method_9_code
def yX10_isAnswer : MethodName := ⟨RX10, "isAnswer", "(I)Z"⟩
abbrev cX10_send : ByteArray := prog_12_method_10_code
def yX10_send : MethodName := ⟨RX10, "send", "(II)I"⟩
abbrev cX10_tryBy : ByteArray := prog_12_method_11_code
def yX10_tryBy : MethodName := ⟨RX10, "tryBy", "(I)V"⟩
abbrev cX10_comes : ByteArray := prog_12_method_12_code
def yX10_comes : MethodName := ⟨RX10, "comes", "(I)V"⟩
abbrev cX10_passes : ByteArray := prog_12_method_13_code
def yX10_passes : MethodName := ⟨RX10, "passes", "()V"⟩
abbrev cX10_ticks : ByteArray := prog_12_method_14_code
def yX10_ticks : MethodName := ⟨RX10, "ticks", "(I)I"⟩
abbrev cX10_base : ByteArray := prog_12_method_15_code
def yX10_base : MethodName := ⟨RX10, "base", "(III)I"⟩
abbrev cX10_answerOf : ByteArray := prog_12_method_16_code
def yX10_answerOf : MethodName := ⟨RX10, "answerOf", "(I)I"⟩
abbrev cX10_about : ByteArray := prog_12_method_17_code
def yX10_about : MethodName := ⟨RX10, "about", "(II)I"⟩
abbrev cX10_many : ByteArray := prog_12_method_18_code
def yX10_many : MethodName := ⟨RX10, "many", "()I"⟩
abbrev cX10_isShown : ByteArray := prog_12_method_19_code
def yX10_isShown : MethodName := ⟨RX10, "isShown", "()Z"⟩
abbrev cX10_answers : ByteArray := prog_12_method_20_code
def yX10_answers : MethodName := ⟨RX10, "answers", "()I"⟩
abbrev cX10_isShownOf : ByteArray := prog_12_method_21_code
def yX10_isShownOf : MethodName := ⟨RX10, "isShownOf", "(I)Z"⟩
abbrev cX10_share : ByteArray := prog_12_method_22_code
def yX10_share : MethodName := ⟨RX10, "share", "(I)I"⟩
abbrev cX10_middle : ByteArray := prog_12_method_23_code
def yX10_middle : MethodName := ⟨RX10, "middle", "(I)I"⟩
abbrev cX10_size : ByteArray := prog_12_method_24_code
def yX10_size : MethodName := ⟨RX10, "size", "(I)I"⟩
abbrev cX10_number : ByteArray := prog_12_method_25_code
def yX10_number : MethodName := ⟨RX10, "number", "(I)I"⟩
abbrev cX10_place : ByteArray := prog_12_method_26_code
def yX10_place : MethodName := ⟨RX10, "place", "(II)I"⟩
abbrev cX10_turned : ByteArray := prog_12_method_27_code
def yX10_turned : MethodName := ⟨RX10, "turned", "(I)I"⟩
abbrev cX10_isLower : ByteArray := prog_12_method_28_code
def yX10_isLower : MethodName := ⟨RX10, "isLower", "(II)Z"⟩
abbrev cX10_order : ByteArray := prog_12_method_29_code
def yX10_order : MethodName := ⟨RX10, "order", "(I)I"⟩
abbrev cX10_close : ByteArray := prog_12_method_30_code
def yX10_close : MethodName := ⟨RX10, "close", "(I)I"⟩
abbrev cX10_book : ByteArray := prog_12_method_31_code
def yX10_book : MethodName := ⟨RX10, "book", "(II)I"⟩
abbrev cX10_marksOf : ByteArray := prog_12_method_32_code
def yX10_marksOf : MethodName := ⟨RX10, "marksOf", "(I)I"⟩
abbrev cX10_marks : ByteArray := prog_12_method_33_code
def yX10_marks : MethodName := ⟨RX10, "marks", "(I)I"⟩
abbrev cX10_sizeOf : ByteArray := prog_12_method_34_code
def yX10_sizeOf : MethodName := ⟨RX10, "sizeOf", "(I)I"⟩
abbrev cX10_marksIn : ByteArray := prog_12_method_35_code
def yX10_marksIn : MethodName := ⟨RX10, "marksIn", "(I)I"⟩
abbrev cX10_teams : ByteArray := prog_12_method_36_code
def yX10_teams : MethodName := ⟨RX10, "teams", "(II)I"⟩
abbrev cX10_best : ByteArray := prog_12_method_37_code
def yX10_best : MethodName := ⟨RX10, "best", "()I"⟩
abbrev cX10_seed : ByteArray := prog_12_method_38_code
def yX10_seed : MethodName := ⟨RX10, "seed", "(I)I"⟩
abbrev cX10_draw : ByteArray := prog_12_method_39_code
def yX10_draw : MethodName := ⟨RX10, "draw", "()I"⟩
abbrev cX10_count : ByteArray := prog_12_method_40_code
def yX10_count : MethodName := ⟨RX10, "count", "(I)I"⟩
def RJ6 : String := "java/lang/Integer"
def TJ6 : u_T := fun k => match k with
  | _ => ("", "", "", false)
def tyJ6 : Nat → FieldType := fun k => match k with
  | _ => .int
abbrev wsJ60 : List Cond := u_ws RJ6 TJ6 0
theorem nmJ6 : ∀ a, a < 0 → ∀ b, b < 0 → a ≠ b → (TJ6 a).2.1 ≠ (TJ6 b).2.1 := by decide +kernel
theorem tyJ6_ok : ∀ k, k < 0 → parseFieldDescriptor (TJ6 k).2.2.1 = some (tyJ6 k) := by decide +kernel
abbrev cJ6_lowestOneBit_0f7a4 : ByteArray := prog_13_method_46_code
def yJ6_lowestOneBit_0f7a4 : MethodName := ⟨RJ6, "lowestOneBit", "(I)I"⟩
abbrev cJ6_bitCount_0f7a4 : ByteArray := prog_13_method_49_code
def yJ6_bitCount_0f7a4 : MethodName := ⟨RJ6, "bitCount", "(I)I"⟩
def RJ9 : String := "java/lang/Math"
def TJ9 : u_T := fun k => match k with
  | _ => ("", "", "", false)
def tyJ9 : Nat → FieldType := fun k => match k with
  | _ => .int
abbrev wsJ90 : List Cond := u_ws RJ9 TJ9 0
theorem nmJ9 : ∀ a, a < 0 → ∀ b, b < 0 → a ≠ b → (TJ9 a).2.1 ≠ (TJ9 b).2.1 := by decide +kernel
theorem tyJ9_ok : ∀ k, k < 0 → parseFieldDescriptor (TJ9 k).2.2.1 = some (tyJ9 k) := by decide +kernel
abbrev cJ9_abs_0f7a4 : ByteArray := prog_14_method_59_code
def yJ9_abs_0f7a4 : MethodName := ⟨RJ9, "abs", "(I)I"⟩
abbrev cJ9_max_7cf53 : ByteArray := prog_14_method_65_code
def yJ9_max_7cf53 : MethodName := ⟨RJ9, "max", "(II)I"⟩
abbrev cJ9_min_7cf53 : ByteArray := prog_14_method_69_code
def yJ9_min_7cf53 : MethodName := ⟨RJ9, "min", "(II)I"⟩
def RL : String := "ClassAnswersLaw"
abbrev cL_law : ByteArray := code
def yL_law : MethodName := ⟨RL, "law", "([I)Z"⟩
abbrev vwCl : List vw_C := [(RX0, TX0, 7), (RX1, TX1, 4), (RX2, TX2, 3), (RX3, TX3, 2), (RX4, TX4, 2), (RX5, TX5, 4), (RX6, TX6, 7), (RX7, TX7, 4), (RX8, TX8, 3), (RX9, TX9, 12), (RX10, TX10, 32)]
set_option maxRecDepth 20000 in
theorem ca_inX0 : ∀ w ∈ wsX00, w ∈ lw_tbl := fun w h => (goodIn_r wsX00 [248, 250, 252, 254, 256, 258, 260] (by decide +kernel) (by decide +kernel) w h).1
set_option maxRecDepth 20000 in
theorem ca_inX1 : ∀ w ∈ wsX10, w ∈ lw_tbl := fun w h => (goodIn_r wsX10 [178, 180, 182, 184] (by decide +kernel) (by decide +kernel) w h).1
set_option maxRecDepth 20000 in
theorem ca_inX2 : ∀ w ∈ wsX20, w ∈ lw_tbl := fun w h => (goodIn_r wsX20 [225, 227, 229] (by decide +kernel) (by decide +kernel) w h).1
set_option maxRecDepth 20000 in
theorem ca_inX3 : ∀ w ∈ wsX30, w ∈ lw_tbl := fun w h => (goodIn_r wsX30 [126, 128] (by decide +kernel) (by decide +kernel) w h).1
set_option maxRecDepth 20000 in
theorem ca_inX4 : ∀ w ∈ wsX40, w ∈ lw_tbl := fun w h => (goodIn_r wsX40 [139, 141] (by decide +kernel) (by decide +kernel) w h).1
set_option maxRecDepth 20000 in
theorem ca_inX5 : ∀ w ∈ wsX50, w ∈ lw_tbl := fun w h => (goodIn_r wsX50 [156, 158, 160, 162] (by decide +kernel) (by decide +kernel) w h).1
set_option maxRecDepth 20000 in
theorem ca_inX6 : ∀ w ∈ wsX60, w ∈ lw_tbl := fun w h => (goodIn_r wsX60 [98, 100, 102, 104, 106, 108, 110] (by decide +kernel) (by decide +kernel) w h).1
set_option maxRecDepth 20000 in
theorem ca_inX7 : ∀ w ∈ wsX70, w ∈ lw_tbl := fun w h => (goodIn_r wsX70 [75, 77, 79, 81] (by decide +kernel) (by decide +kernel) w h).1
set_option maxRecDepth 20000 in
theorem ca_inX8 : ∀ w ∈ wsX80, w ∈ lw_tbl := fun w h => (goodIn_r wsX80 [205, 207, 209] (by decide +kernel) (by decide +kernel) w h).1
set_option maxRecDepth 20000 in
theorem ca_inX9 : ∀ w ∈ wsX90, w ∈ lw_tbl := fun w h => (goodIn_r wsX90 [275, 277, 279, 281, 283, 285, 287, 289, 291, 293, 295, 297] (by decide +kernel) (by decide +kernel) w h).1
set_option maxRecDepth 20000 in
theorem ca_inX10 : ∀ w ∈ wsX100, w ∈ lw_tbl := fun w h => (goodIn_r wsX100 [645, 647, 649, 651, 653, 655, 657, 659, 661, 663, 665, 667, 669, 671, 673, 675, 677, 679, 681, 683, 685, 687, 689, 691, 693, 695, 697, 699, 701, 703, 705, 707] (by decide +kernel) (by decide +kernel) w h).1
