/-- a word of the tables, wherever it stands -/
def an_mem (w : Cond) : Bool := decide (w ∈ lw_tbl) && (goodWord w || am_nest w)
theorem an_mem_ok {w : Cond} (h : an_mem w = true) : w ∈ am_U := by
  unfold an_mem at h
  rw [Bool.and_eq_true, decide_eq_true_eq] at h
  exact List.mem_filter.mpr h
def an_lkB (own : String) (pc : Nat) (q : am_Q) : Bool := match q.1 with
  | .putfield i => q.2.1 == 3 && (match q.2.2 with
    | ci :: k :: nest :: _ => (match am_cl[ci]? with | some r => (!(r.2.1 k).2.2.2 || (nest == 0 && decide ((r.2.1 k).1 = own) && (r.2.1 k).2.2.2)) && an_mem (am_fl own i r k nest) | none => false)
    | _ => false)
  | .new _ => true
  | .newarray _ => true
  | .invokespecial _ => true
  | _ => am_lkB own pc q
def an_ckB (Nc : Nat → Option am_N) (own : String) (q : am_Q) : Bool := match q.1 with
  | .new i => q.2.1 == 3 && (match q.2.2 with
    | ci :: _ => (match am_cl[ci]? with | some r => an_mem (Cond.classLink own i r.1) && an_mem (Cond.instantiable r.1 r.2.2) && an_mem (Cond.initialized r.1) | none => false)
    | _ => false)
  | .newarray a => q.2.1 == 2 && (match q.2.2 with
    | k :: _ => an_atk a k && an_mem (Cond.arrayClass (newarray.typeOf a))
    | _ => false)
  | .invokespecial i => q.2.1 == 3 && (match q.2.2 with
    | j :: nn :: nest :: _ => (match Nc j with
      | some nm => (match nest with | 0 => an_mem (Cond.methodLink own i nm.1) | _ => an_mem (Cond.methodLinkNest own i nm.1 am_host)) && an_mem (Cond.instanceMethod nm.1) && decide (nm.1.name = "<init>") && decide (nm.2.2.2 = none) && decide ((parseMethodDescriptor nm.1.desc).map (fun d => d.parameters.length + 1) = some nn)
      | none => false)
    | [] => an_mem (Cond.methodLink own i Lib.objectInit) && an_mem (Cond.instanceMethod Lib.objectInit) && an_mem (Cond.code Lib.objectInit ⟨#[0xb1]⟩ 1 none)
    | _ => false)
  | _ => true
theorem an_lkB_ok {own : String} {pc : Nat} {q : am_Q} (h : an_lkB own pc q = true) : an_lk own am_U pc q := by
  unfold an_lkB at h
  unfold an_lk
  obtain ⟨ins, len, info⟩ := q
  cases ins
  case putfield i =>
    simp only [Bool.and_eq_true, beq_iff_eq] at h ⊢
    refine ⟨h.1, ?_⟩
    have h2 := h.2
    split at h2
    · next ci k nest rs =>
      split at h2
      · next r hr =>
        simp only [Bool.and_eq_true, Bool.or_eq_true, Bool.not_eq_true', beq_iff_eq, decide_eq_true_eq] at h2
        refine ⟨r, hr, ?_, an_mem_ok h2.2⟩
        rcases h2.1 with h3 | h3
        · exact Or.inl h3
        · exact Or.inr ⟨h3.1.1, h3.1.2, h3.2⟩
      · cases h2
    · cases h2
  all_goals first | exact trivial | exact am_lkB_ok h
theorem an_ckB_ok {Nc : Nat → Option am_N} {own : String} {q : am_Q} (h : an_ckB Nc own q = true) : an_ck own am_U Nc q := by
  unfold an_ckB at h
  unfold an_ck
  obtain ⟨ins, len, info⟩ := q
  cases ins <;> simp only at h ⊢
  case new i =>
    simp only [Bool.and_eq_true, beq_iff_eq] at h
    refine ⟨h.1, ?_⟩
    have h2 := h.2
    split at h2
    · next ci rs =>
      split at h2
      · next r hr =>
        simp only [Bool.and_eq_true] at h2
        exact ⟨r, hr, an_mem_ok h2.1.1, an_mem_ok h2.1.2, an_mem_ok h2.2⟩
      · cases h2
    · cases h2
  case newarray a =>
    simp only [Bool.and_eq_true, beq_iff_eq] at h
    refine ⟨h.1, ?_⟩
    have h2 := h.2
    split at h2
    · next k rs =>
      simp only [Bool.and_eq_true] at h2
      exact ⟨h2.1, an_mem_ok h2.2⟩
    · cases h2
  case invokespecial i =>
    simp only [Bool.and_eq_true, beq_iff_eq] at h
    refine ⟨h.1, ?_⟩
    have h2 := h.2
    split at h2
    · next j nn nest rs =>
      split at h2
      · next nm hnm =>
        simp only [Bool.and_eq_true, decide_eq_true_eq] at h2
        obtain ⟨⟨⟨⟨g1, g2⟩, g3⟩, g4⟩, g5⟩ := h2
        refine ⟨nm, hnm, ?_, an_mem_ok g2, g3, g4, g5⟩
        cases nest with
        | zero => exact an_mem_ok g1
        | succ _ => exact an_mem_ok g1
      · cases h2
    · simp only [Bool.and_eq_true] at h2
      exact ⟨an_mem_ok h2.1.1, an_mem_ok h2.1.2, an_mem_ok h2.2⟩
    · cases h2
def an_chk (Nc : Nat → Option am_N) (own : String) (bytes : ByteArray) (code : List (Nat × am_Q)) : Bool := code.all (fun x => decide (decode bytes x.1 = .ok (x.2.1, x.2.2.1)) && an_lkB own x.1 x.2 && am_ckB am_Nm own x.2 && an_ckB Nc own x.2)
theorem an_chk_at {Nc : Nat → Option am_N} {own : String} {bytes : ByteArray} {code : List (Nat × am_Q)} (h : an_chk Nc own bytes code = true) {pc : Nat} {q : am_Q} (hq : code.lookup pc = some q) : decode bytes pc = .ok (q.1, q.2.1) ∧ an_lk own am_U pc q ∧ am_ck own am_cl am_U am_Nm q ∧ an_ck own am_U Nc q := by
  have hm : (pc, q) ∈ code := by
    clear h
    induction code with
    | nil => cases hq
    | cons x xs ih =>
      obtain ⟨k, v⟩ := x
      rw [List.lookup_cons] at hq
      by_cases hk : (pc == k) = true
      · rw [hk] at hq
        simp only [beq_iff_eq] at hk
        cases hq
        rw [hk]
        exact List.mem_cons_self
      · simp only [Bool.not_eq_true] at hk
        rw [hk] at hq
        exact List.mem_cons_of_mem _ (ih hq)
  have h1 := List.all_eq_true.mp h _ hm
  rw [Bool.and_eq_true, Bool.and_eq_true, Bool.and_eq_true] at h1
  exact ⟨of_decide_eq_true h1.1.1.1, an_lkB_ok h1.1.1.2, am_ckB_ok h1.1.2, an_ckB_ok h1.2⟩
def an_Nl : List am_N := [(⟨"SureSums$Curve", "<init>", "(LSureSums$Spans;LSureSums$Program;)V"⟩, prog_2_method_1_code, 3, none),
  (⟨"SureSums$Doubles", "<init>", "(LSureSums$Program;)V"⟩, prog_3_method_1_code, 2, none),
  (⟨"SureSums$Fractions", "<init>", "()V"⟩, prog_4_method_1_code, 1, none),
  (⟨"SureSums$Program", "<init>", "()V"⟩, prog_5_method_1_code, 1, none),
  (⟨"SureSums$Reader", "<init>", "(LSureSums$Program;)V"⟩, prog_6_method_1_code, 2, none),
  (⟨"SureSums$Spans", "<init>", "(LSureSums$Program;)V"⟩, prog_7_method_1_code, 2, none),
  (⟨"SureSums$Tokens", "<init>", "()V"⟩, prog_8_method_1_code, 1, none),
  (⟨"SureSums", "<init>", "()V"⟩, prog_1_method_1_code, 1, none),
  (⟨"SureSumsModel", "<init>", "()V"⟩, prog_10_method_1_code, 1, none)]
def an_Nc (j : Nat) : Option am_N := an_Nl[j]?
def an_q0_0 : List (Nat × am_Q) := [(0, .aload_n 0, 1, []),
  (1, .invokespecial 1, 3, []),
  (4, .aload_n 0, 1, []),
  (5, .bipush 17, 2, []),
  (7, .newarray .long, 2, [1]),
  (9, .putfield 9, 3, [0, 1, 0, 408]),
  (12, .aload_n 0, 1, []),
  (13, .bipush 17, 2, []),
  (15, .newarray .long, 2, [1]),
  (17, .putfield 13, 3, [0, 2, 0, 409]),
  (20, .aload_n 0, 1, []),
  (21, .aload_n 1, 1, []),
  (22, .putfield 16, 3, [0, 0, 0, 407]),
  (25, .aload_n 0, 1, []),
  (26, .aload_n 2, 1, []),
  (27, .putfield 20, 3, [0, 3, 0, 410]),
  (30, .return_, 1, [])]
def an_q0 : List (Nat × am_Q) := an_q0_0
set_option maxRecDepth 100000 in
theorem an_c0_0 : an_chk an_Nc "SureSums$Curve" prog_2_method_1_code an_q0_0 = true := by decide +kernel
theorem an_c0 : an_chk an_Nc "SureSums$Curve" prog_2_method_1_code an_q0 = true := by
  simp only [an_q0, an_chk, List.all_append, Bool.and_eq_true]
  exact an_c0_0
def an_q1_0 : List (Nat × am_Q) := [(0, .aload_n 0, 1, []),
  (1, .invokespecial 3, 3, []),
  (4, .aload_n 0, 1, []),
  (5, .bipush 18, 2, []),
  (7, .newarray .double, 2, [2]),
  (9, .putfield 9, 3, [1, 0, 0, 377]),
  (12, .aload_n 0, 1, []),
  (13, .bipush 18, 2, []),
  (15, .newarray .int, 2, [0]),
  (17, .putfield 15, 3, [1, 1, 0, 378]),
  (20, .aload_n 0, 1, []),
  (21, .bipush 100, 2, []),
  (23, .newarray .double, 2, [2]),
  (25, .putfield 19, 3, [1, 2, 0, 379]),
  (28, .aload_n 0, 1, []),
  (29, .bipush 100, 2, []),
  (31, .newarray .boolean, 2, [4]),
  (33, .putfield 22, 3, [1, 3, 0, 380]),
  (36, .aload_n 0, 1, []),
  (37, .aload_n 1, 1, []),
  (38, .putfield 26, 3, [1, 5, 0, 382]),
  (41, .return_, 1, [])]
def an_q1 : List (Nat × am_Q) := an_q1_0
set_option maxRecDepth 100000 in
theorem an_c1_0 : an_chk an_Nc "SureSums$Doubles" prog_3_method_1_code an_q1_0 = true := by decide +kernel
theorem an_c1 : an_chk an_Nc "SureSums$Doubles" prog_3_method_1_code an_q1 = true := by
  simp only [an_q1, an_chk, List.all_append, Bool.and_eq_true]
  exact an_c1_0
def an_q2_0 : List (Nat × am_Q) := [(0, .aload_n 0, 1, []),
  (1, .invokespecial 3, 3, []),
  (4, .aload_n 0, 1, []),
  (5, .bipush 18, 2, []),
  (7, .newarray .long, 2, [1]),
  (9, .putfield 9, 3, [2, 0, 0, 355]),
  (12, .aload_n 0, 1, []),
  (13, .bipush 18, 2, []),
  (15, .newarray .long, 2, [1]),
  (17, .putfield 15, 3, [2, 1, 0, 356]),
  (20, .aload_n 0, 1, []),
  (21, .bipush 100, 2, []),
  (23, .newarray .long, 2, [1]),
  (25, .putfield 18, 3, [2, 2, 0, 357]),
  (28, .aload_n 0, 1, []),
  (29, .bipush 100, 2, []),
  (31, .newarray .long, 2, [1]),
  (33, .putfield 21, 3, [2, 3, 0, 358]),
  (36, .return_, 1, [])]
def an_q2 : List (Nat × am_Q) := an_q2_0
set_option maxRecDepth 100000 in
theorem an_c2_0 : an_chk an_Nc "SureSums$Fractions" prog_4_method_1_code an_q2_0 = true := by decide +kernel
theorem an_c2 : an_chk an_Nc "SureSums$Fractions" prog_4_method_1_code an_q2 = true := by
  simp only [an_q2, an_chk, List.all_append, Bool.and_eq_true]
  exact an_c2_0
def an_q3_0 : List (Nat × am_Q) := [(0, .aload_n 0, 1, []),
  (1, .invokespecial 5, 3, []),
  (4, .aload_n 0, 1, []),
  (5, .bipush 26, 2, []),
  (7, .newarray .int, 2, [0]),
  (9, .putfield 11, 3, [3, 0, 0, 176]),
  (12, .aload_n 0, 1, []),
  (13, .bipush 18, 2, []),
  (15, .newarray .boolean, 2, [4]),
  (17, .putfield 15, 3, [3, 1, 0, 177]),
  (20, .aload_n 0, 1, []),
  (21, .bipush 18, 2, []),
  (23, .newarray .int, 2, [0]),
  (25, .putfield 19, 3, [3, 2, 0, 178]),
  (28, .aload_n 0, 1, []),
  (29, .bipush 18, 2, []),
  (31, .newarray .int, 2, [0]),
  (33, .putfield 22, 3, [3, 3, 0, 182]),
  (36, .aload_n 0, 1, []),
  (37, .sipush 288, 3, []),
  (40, .newarray .int, 2, [0]),
  (42, .putfield 25, 3, [3, 4, 0, 186]),
  (45, .aload_n 0, 1, []),
  (46, .sipush 288, 3, []),
  (49, .newarray .int, 2, [0]),
  (51, .putfield 28, 3, [3, 5, 0, 190]),
  (54, .aload_n 0, 1, []),
  (55, .sipush 288, 3, []),
  (58, .newarray .int, 2, [0]),
  (60, .putfield 31, 3, [3, 6, 0, 191]),
  (63, .aload_n 0, 1, []),
  (64, .sipush 288, 3, []),
  (67, .newarray .int, 2, [0]),
  (69, .putfield 34, 3, [3, 7, 0, 193]),
  (72, .aload_n 0, 1, []),
  (73, .invokevirtual 37, 3, [31, 1, 1, 3, 0, 169, 171, 0]),
  (76, .return_, 1, [])]
def an_q3 : List (Nat × am_Q) := an_q3_0
set_option maxRecDepth 100000 in
theorem an_c3_0 : an_chk an_Nc "SureSums$Program" prog_5_method_1_code an_q3_0 = true := by decide +kernel
theorem an_c3 : an_chk an_Nc "SureSums$Program" prog_5_method_1_code an_q3 = true := by
  simp only [an_q3, an_chk, List.all_append, Bool.and_eq_true]
  exact an_c3_0
def an_q4_0 : List (Nat × am_Q) := [(0, .aload_n 0, 1, []),
  (1, .invokespecial 3, 3, []),
  (4, .aload_n 0, 1, []),
  (5, .new 9, 3, [6]),
  (8, .dup, 1, []),
  (9, .invokespecial 11, 3, [6, 1, 1]),
  (12, .putfield 12, 3, [4, 0, 0, 270]),
  (15, .aload_n 0, 1, []),
  (16, .iconst (-1), 1, []),
  (17, .putfield 18, 3, [4, 9, 0, 280]),
  (20, .aload_n 0, 1, []),
  (21, .aload_n 1, 1, []),
  (22, .putfield 22, 3, [4, 1, 0, 271]),
  (25, .return_, 1, [])]
def an_q4 : List (Nat × am_Q) := an_q4_0
set_option maxRecDepth 100000 in
theorem an_c4_0 : an_chk an_Nc "SureSums$Reader" prog_6_method_1_code an_q4_0 = true := by decide +kernel
theorem an_c4 : an_chk an_Nc "SureSums$Reader" prog_6_method_1_code an_q4 = true := by
  simp only [an_q4, an_chk, List.all_append, Bool.and_eq_true]
  exact an_c4_0
def an_q5_0 : List (Nat × am_Q) := [(0, .aload_n 0, 1, []),
  (1, .invokespecial 3, 3, []),
  (4, .aload_n 0, 1, []),
  (5, .bipush 100, 2, []),
  (7, .newarray .long, 2, [1]),
  (9, .putfield 11, 3, [5, 0, 0, 309]),
  (12, .aload_n 0, 1, []),
  (13, .bipush 100, 2, []),
  (15, .newarray .long, 2, [1]),
  (17, .putfield 15, 3, [5, 1, 0, 310]),
  (20, .aload_n 0, 1, []),
  (21, .bipush 96, 2, []),
  (23, .newarray .int, 2, [0]),
  (25, .putfield 18, 3, [5, 2, 0, 311]),
  (28, .aload_n 0, 1, []),
  (29, .aload_n 1, 1, []),
  (30, .putfield 22, 3, [5, 5, 0, 314]),
  (33, .return_, 1, [])]
def an_q5 : List (Nat × am_Q) := an_q5_0
set_option maxRecDepth 100000 in
theorem an_c5_0 : an_chk an_Nc "SureSums$Spans" prog_7_method_1_code an_q5_0 = true := by decide +kernel
theorem an_c5 : an_chk an_Nc "SureSums$Spans" prog_7_method_1_code an_q5 = true := by
  simp only [an_q5, an_chk, List.all_append, Bool.and_eq_true]
  exact an_c5_0
def an_q6_0 : List (Nat × am_Q) := [(0, .aload_n 0, 1, []),
  (1, .invokespecial 3, 3, []),
  (4, .aload_n 0, 1, []),
  (5, .sipush 501, 3, []),
  (8, .newarray .int, 2, [0]),
  (10, .putfield 9, 3, [6, 0, 0, 253]),
  (13, .aload_n 0, 1, []),
  (14, .sipush 501, 3, []),
  (17, .newarray .int, 2, [0]),
  (19, .putfield 15, 3, [6, 1, 0, 255]),
  (22, .aload_n 0, 1, []),
  (23, .sipush 501, 3, []),
  (26, .newarray .int, 2, [0]),
  (28, .putfield 18, 3, [6, 2, 0, 257]),
  (31, .return_, 1, [])]
def an_q6 : List (Nat × am_Q) := an_q6_0
set_option maxRecDepth 100000 in
theorem an_c6_0 : an_chk an_Nc "SureSums$Tokens" prog_8_method_1_code an_q6_0 = true := by decide +kernel
theorem an_c6 : an_chk an_Nc "SureSums$Tokens" prog_8_method_1_code an_q6 = true := by
  simp only [an_q6, an_chk, List.all_append, Bool.and_eq_true]
  exact an_c6_0
def an_q7_0 : List (Nat × am_Q) := [(0, .aload_n 0, 1, []),
  (1, .invokespecial 1, 3, []),
  (4, .aload_n 0, 1, []),
  (5, .sipush 500, 3, []),
  (8, .newarray .int, 2, [0]),
  (10, .putfield 9, 3, [7, 0, 0, 438]),
  (13, .aload_n 0, 1, []),
  (14, .new 13, 3, [3]),
  (17, .dup, 1, []),
  (18, .invokespecial 15, 3, [3, 1, 0]),
  (21, .putfield 16, 3, [7, 1, 0, 439]),
  (24, .aload_n 0, 1, []),
  (25, .new 13, 3, [3]),
  (28, .dup, 1, []),
  (29, .invokespecial 15, 3, [3, 1, 0]),
  (32, .putfield 20, 3, [7, 2, 0, 440]),
  (35, .aload_n 0, 1, []),
  (36, .new 23, 3, [4]),
  (39, .dup, 1, []),
  (40, .aload_n 0, 1, []),
  (41, .getfield 20, 3, [7, 2, 0, 440]),
  (44, .invokespecial 25, 3, [4, 2, 0]),
  (47, .putfield 28, 3, [7, 3, 0, 441]),
  (50, .aload_n 0, 1, []),
  (51, .new 32, 3, [5]),
  (54, .dup, 1, []),
  (55, .aload_n 0, 1, []),
  (56, .getfield 16, 3, [7, 1, 0, 439]),
  (59, .invokespecial 34, 3, [5, 2, 0]),
  (62, .putfield 35, 3, [7, 4, 0, 442]),
  (65, .aload_n 0, 1, []),
  (66, .new 39, 3, [2]),
  (69, .dup, 1, []),
  (70, .invokespecial 41, 3, [2, 1, 1]),
  (73, .putfield 42, 3, [7, 5, 0, 443]),
  (76, .aload_n 0, 1, []),
  (77, .new 46, 3, [1]),
  (80, .dup, 1, []),
  (81, .aload_n 0, 1, []),
  (82, .getfield 16, 3, [7, 1, 0, 439]),
  (85, .invokespecial 48, 3, [1, 2, 0]),
  (88, .putfield 49, 3, [7, 6, 0, 444]),
  (91, .aload_n 0, 1, []),
  (92, .new 53, 3, [0]),
  (95, .dup, 1, []),
  (96, .aload_n 0, 1, []),
  (97, .getfield 35, 3, [7, 4, 0, 442]),
  (100, .aload_n 0, 1, []),
  (101, .getfield 16, 3, [7, 1, 0, 439]),
  (104, .invokespecial 55, 3, [0, 3, 0]),
  (107, .putfield 58, 3, [7, 7, 0, 445]),
  (110, .aload_n 0, 1, []),
  (111, .iconst (-1), 1, []),
  (112, .putfield 62, 3, [7, 10, 0, 448]),
  (115, .return_, 1, [])]
def an_q7 : List (Nat × am_Q) := an_q7_0
set_option maxRecDepth 100000 in
theorem an_c7_0 : an_chk an_Nc "SureSums" prog_1_method_1_code an_q7_0 = true := by decide +kernel
theorem an_c7 : an_chk an_Nc "SureSums" prog_1_method_1_code an_q7 = true := by
  simp only [an_q7, an_chk, List.all_append, Bool.and_eq_true]
  exact an_c7_0
def an_q8_0 : List (Nat × am_Q) := [(0, .aload_n 0, 1, []),
  (1, .invokespecial 1, 3, []),
  (4, .aload_n 0, 1, []),
  (5, .sipush 500, 3, []),
  (8, .newarray .int, 2, [0]),
  (10, .putfield 7, 3, [8, 0, 0, 1128]),
  (13, .aload_n 0, 1, []),
  (14, .bipush 51, 2, []),
  (16, .newarray .int, 2, [0]),
  (18, .dup, 1, []),
  (19, .iconst 0, 1, []),
  (20, .bipush 108, 2, []),
  (22, .iastore, 1, []),
  (23, .dup, 1, []),
  (24, .iconst 1, 1, []),
  (25, .bipush 101, 2, []),
  (27, .iastore, 1, []),
  (28, .dup, 1, []),
  (29, .iconst 2, 1, []),
  (30, .bipush 116, 2, []),
  (32, .iastore, 1, []),
  (33, .dup, 1, []),
  (34, .iconst 3, 1, []),
  (35, .bipush 32, 2, []),
  (37, .iastore, 1, []),
  (38, .dup, 1, []),
  (39, .iconst 4, 1, []),
  (40, .bipush 102, 2, []),
  (42, .iastore, 1, []),
  (43, .dup, 1, []),
  (44, .iconst 5, 1, []),
  (45, .bipush 117, 2, []),
  (47, .iastore, 1, []),
  (48, .dup, 1, []),
  (49, .bipush 6, 2, []),
  (51, .bipush 110, 2, []),
  (53, .iastore, 1, []),
  (54, .dup, 1, []),
  (55, .bipush 7, 2, []),
  (57, .bipush 32, 2, []),
  (59, .iastore, 1, []),
  (60, .dup, 1, []),
  (61, .bipush 8, 2, []),
  (63, .bipush 115, 2, []),
  (65, .iastore, 1, []),
  (66, .dup, 1, []),
  (67, .bipush 9, 2, []),
  (69, .bipush 113, 2, []),
  (71, .iastore, 1, []),
  (72, .dup, 1, []),
  (73, .bipush 10, 2, []),
  (75, .bipush 114, 2, []),
  (77, .iastore, 1, []),
  (78, .dup, 1, []),
  (79, .bipush 11, 2, []),
  (81, .bipush 116, 2, []),
  (83, .iastore, 1, []),
  (84, .dup, 1, []),
  (85, .bipush 12, 2, []),
  (87, .bipush 32, 2, [])]
def an_q8_1 : List (Nat × am_Q) := [(89, .iastore, 1, []),
  (90, .dup, 1, []),
  (91, .bipush 13, 2, []),
  (93, .bipush 97, 2, []),
  (95, .iastore, 1, []),
  (96, .dup, 1, []),
  (97, .bipush 14, 2, []),
  (99, .bipush 98, 2, []),
  (101, .iastore, 1, []),
  (102, .dup, 1, []),
  (103, .bipush 15, 2, []),
  (105, .bipush 115, 2, []),
  (107, .iastore, 1, []),
  (108, .dup, 1, []),
  (109, .bipush 16, 2, []),
  (111, .bipush 32, 2, []),
  (113, .iastore, 1, []),
  (114, .dup, 1, []),
  (115, .bipush 17, 2, []),
  (117, .bipush 109, 2, []),
  (119, .iastore, 1, []),
  (120, .dup, 1, []),
  (121, .bipush 18, 2, []),
  (123, .bipush 97, 2, []),
  (125, .iastore, 1, []),
  (126, .dup, 1, []),
  (127, .bipush 19, 2, []),
  (129, .bipush 120, 2, []),
  (131, .iastore, 1, []),
  (132, .dup, 1, []),
  (133, .bipush 20, 2, []),
  (135, .bipush 32, 2, []),
  (137, .iastore, 1, []),
  (138, .dup, 1, []),
  (139, .bipush 21, 2, []),
  (141, .bipush 109, 2, []),
  (143, .iastore, 1, []),
  (144, .dup, 1, []),
  (145, .bipush 22, 2, []),
  (147, .bipush 105, 2, []),
  (149, .iastore, 1, []),
  (150, .dup, 1, []),
  (151, .bipush 23, 2, []),
  (153, .bipush 110, 2, []),
  (155, .iastore, 1, []),
  (156, .dup, 1, []),
  (157, .bipush 24, 2, []),
  (159, .bipush 32, 2, []),
  (161, .iastore, 1, []),
  (162, .dup, 1, []),
  (163, .bipush 25, 2, []),
  (165, .bipush 105, 2, []),
  (167, .iastore, 1, []),
  (168, .dup, 1, []),
  (169, .bipush 26, 2, []),
  (171, .bipush 102, 2, []),
  (173, .iastore, 1, []),
  (174, .dup, 1, []),
  (175, .bipush 27, 2, []),
  (177, .bipush 32, 2, [])]
def an_q8_2 : List (Nat × am_Q) := [(179, .iastore, 1, []),
  (180, .dup, 1, []),
  (181, .bipush 28, 2, []),
  (183, .bipush 110, 2, []),
  (185, .iastore, 1, []),
  (186, .dup, 1, []),
  (187, .bipush 29, 2, []),
  (189, .bipush 111, 2, []),
  (191, .iastore, 1, []),
  (192, .dup, 1, []),
  (193, .bipush 30, 2, []),
  (195, .bipush 117, 2, []),
  (197, .iastore, 1, []),
  (198, .dup, 1, []),
  (199, .bipush 31, 2, []),
  (201, .bipush 103, 2, []),
  (203, .iastore, 1, []),
  (204, .dup, 1, []),
  (205, .bipush 32, 2, []),
  (207, .bipush 104, 2, []),
  (209, .iastore, 1, []),
  (210, .dup, 1, []),
  (211, .bipush 33, 2, []),
  (213, .bipush 116, 2, []),
  (215, .iastore, 1, []),
  (216, .dup, 1, []),
  (217, .bipush 34, 2, []),
  (219, .bipush 32, 2, []),
  (221, .iastore, 1, []),
  (222, .dup, 1, []),
  (223, .bipush 35, 2, []),
  (225, .bipush 97, 2, []),
  (227, .iastore, 1, []),
  (228, .dup, 1, []),
  (229, .bipush 36, 2, []),
  (231, .bipush 114, 2, []),
  (233, .iastore, 1, []),
  (234, .dup, 1, []),
  (235, .bipush 37, 2, []),
  (237, .bipush 101, 2, []),
  (239, .iastore, 1, []),
  (240, .dup, 1, []),
  (241, .bipush 38, 2, []),
  (243, .bipush 97, 2, []),
  (245, .iastore, 1, []),
  (246, .dup, 1, []),
  (247, .bipush 39, 2, []),
  (249, .bipush 32, 2, []),
  (251, .iastore, 1, []),
  (252, .dup, 1, []),
  (253, .bipush 40, 2, []),
  (255, .bipush 109, 2, []),
  (257, .iastore, 1, []),
  (258, .dup, 1, []),
  (259, .bipush 41, 2, []),
  (261, .bipush 111, 2, []),
  (263, .iastore, 1, []),
  (264, .dup, 1, []),
  (265, .bipush 42, 2, []),
  (267, .bipush 115, 2, [])]
def an_q8_3 : List (Nat × am_Q) := [(269, .iastore, 1, []),
  (270, .dup, 1, []),
  (271, .bipush 43, 2, []),
  (273, .bipush 116, 2, []),
  (275, .iastore, 1, []),
  (276, .dup, 1, []),
  (277, .bipush 44, 2, []),
  (279, .bipush 32, 2, []),
  (281, .iastore, 1, []),
  (282, .dup, 1, []),
  (283, .bipush 45, 2, []),
  (285, .bipush 108, 2, []),
  (287, .iastore, 1, []),
  (288, .dup, 1, []),
  (289, .bipush 46, 2, []),
  (291, .bipush 101, 2, []),
  (293, .iastore, 1, []),
  (294, .dup, 1, []),
  (295, .bipush 47, 2, []),
  (297, .bipush 97, 2, []),
  (299, .iastore, 1, []),
  (300, .dup, 1, []),
  (301, .bipush 48, 2, []),
  (303, .bipush 115, 2, []),
  (305, .iastore, 1, []),
  (306, .dup, 1, []),
  (307, .bipush 49, 2, []),
  (309, .bipush 116, 2, []),
  (311, .iastore, 1, []),
  (312, .dup, 1, []),
  (313, .bipush 50, 2, []),
  (315, .bipush 32, 2, []),
  (317, .iastore, 1, []),
  (318, .putfield 13, 3, [8, 3, 0, 1131]),
  (321, .aload_n 0, 1, []),
  (322, .iconst (-1), 1, []),
  (323, .putfield 16, 3, [8, 5, 0, 1133]),
  (326, .aload_n 0, 1, []),
  (327, .sipush 192, 3, []),
  (330, .newarray .int, 2, [0]),
  (332, .putfield 20, 3, [8, 11, 0, 1139]),
  (335, .aload_n 0, 1, []),
  (336, .sipush 192, 3, []),
  (339, .newarray .int, 2, [0]),
  (341, .putfield 23, 3, [8, 12, 0, 1140]),
  (344, .aload_n 0, 1, []),
  (345, .sipush 192, 3, []),
  (348, .newarray .int, 2, [0]),
  (350, .putfield 26, 3, [8, 13, 0, 1141]),
  (353, .aload_n 0, 1, []),
  (354, .sipush 192, 3, []),
  (357, .newarray .int, 2, [0]),
  (359, .putfield 29, 3, [8, 14, 0, 1142]),
  (362, .aload_n 0, 1, []),
  (363, .sipush 192, 3, []),
  (366, .newarray .int, 2, [0]),
  (368, .putfield 32, 3, [8, 15, 0, 1143]),
  (371, .aload_n 0, 1, []),
  (372, .sipush 192, 3, []),
  (375, .newarray .int, 2, [0])]
def an_q8_4 : List (Nat × am_Q) := [(377, .putfield 35, 3, [8, 16, 0, 1144]),
  (380, .aload_n 0, 1, []),
  (381, .bipush 52, 2, []),
  (383, .newarray .int, 2, [0]),
  (385, .putfield 38, 3, [8, 19, 0, 1147]),
  (388, .aload_n 0, 1, []),
  (389, .bipush 52, 2, []),
  (391, .newarray .int, 2, [0]),
  (393, .putfield 41, 3, [8, 20, 0, 1148]),
  (396, .aload_n 0, 1, []),
  (397, .bipush 12, 2, []),
  (399, .newarray .int, 2, [0]),
  (401, .putfield 44, 3, [8, 22, 0, 1150]),
  (404, .aload_n 0, 1, []),
  (405, .bipush 12, 2, []),
  (407, .newarray .int, 2, [0]),
  (409, .putfield 47, 3, [8, 23, 0, 1151]),
  (412, .aload_n 0, 1, []),
  (413, .bipush 120, 2, []),
  (415, .newarray .int, 2, [0]),
  (417, .putfield 50, 3, [8, 28, 0, 1156]),
  (420, .aload_n 0, 1, []),
  (421, .bipush 120, 2, []),
  (423, .newarray .int, 2, [0]),
  (425, .putfield 53, 3, [8, 29, 0, 1157]),
  (428, .aload_n 0, 1, []),
  (429, .bipush 120, 2, []),
  (431, .newarray .int, 2, [0]),
  (433, .putfield 56, 3, [8, 30, 0, 1158]),
  (436, .aload_n 0, 1, []),
  (437, .bipush 120, 2, []),
  (439, .newarray .int, 2, [0]),
  (441, .putfield 59, 3, [8, 32, 0, 1160]),
  (444, .aload_n 0, 1, []),
  (445, .sipush 128, 3, []),
  (448, .newarray .int, 2, [0]),
  (450, .putfield 62, 3, [8, 37, 0, 1165]),
  (453, .aload_n 0, 1, []),
  (454, .sipush 128, 3, []),
  (457, .newarray .int, 2, [0]),
  (459, .putfield 65, 3, [8, 38, 0, 1166]),
  (462, .aload_n 0, 1, []),
  (463, .sipush 128, 3, []),
  (466, .newarray .long, 2, [1]),
  (468, .putfield 68, 3, [8, 39, 0, 1167]),
  (471, .aload_n 0, 1, []),
  (472, .sipush 128, 3, []),
  (475, .newarray .long, 2, [1]),
  (477, .putfield 72, 3, [8, 40, 0, 1168]),
  (480, .aload_n 0, 1, []),
  (481, .sipush 128, 3, []),
  (484, .newarray .long, 2, [1]),
  (486, .putfield 75, 3, [8, 41, 0, 1169]),
  (489, .aload_n 0, 1, []),
  (490, .sipush 128, 3, []),
  (493, .newarray .long, 2, [1]),
  (495, .putfield 78, 3, [8, 42, 0, 1170]),
  (498, .aload_n 0, 1, []),
  (499, .sipush 128, 3, []),
  (502, .newarray .boolean, 2, [4])]
def an_q8_5 : List (Nat × am_Q) := [(504, .putfield 81, 3, [8, 43, 0, 1171]),
  (507, .aload_n 0, 1, []),
  (508, .sipush 128, 3, []),
  (511, .newarray .long, 2, [1]),
  (513, .putfield 85, 3, [8, 44, 0, 1172]),
  (516, .aload_n 0, 1, []),
  (517, .sipush 128, 3, []),
  (520, .newarray .long, 2, [1]),
  (522, .putfield 88, 3, [8, 45, 0, 1173]),
  (525, .aload_n 0, 1, []),
  (526, .sipush 128, 3, []),
  (529, .newarray .boolean, 2, [4]),
  (531, .putfield 91, 3, [8, 46, 0, 1174]),
  (534, .aload_n 0, 1, []),
  (535, .bipush 26, 2, []),
  (537, .newarray .long, 2, [1]),
  (539, .putfield 94, 3, [8, 53, 0, 1181]),
  (542, .aload_n 0, 1, []),
  (543, .bipush 26, 2, []),
  (545, .newarray .long, 2, [1]),
  (547, .putfield 97, 3, [8, 54, 0, 1182]),
  (550, .aload_n 0, 1, []),
  (551, .bipush 26, 2, []),
  (553, .newarray .boolean, 2, [4]),
  (555, .putfield 100, 3, [8, 55, 0, 1183]),
  (558, .aload_n 0, 1, []),
  (559, .bipush 96, 2, []),
  (561, .newarray .long, 2, [1]),
  (563, .putfield 103, 3, [8, 56, 0, 1184]),
  (566, .aload_n 0, 1, []),
  (567, .bipush 96, 2, []),
  (569, .newarray .long, 2, [1]),
  (571, .putfield 106, 3, [8, 57, 0, 1185]),
  (574, .aload_n 0, 1, []),
  (575, .bipush 96, 2, []),
  (577, .newarray .int, 2, [0]),
  (579, .putfield 109, 3, [8, 58, 0, 1186]),
  (582, .aload_n 0, 1, []),
  (583, .bipush 26, 2, []),
  (585, .newarray .double, 2, [2]),
  (587, .putfield 112, 3, [8, 61, 0, 1189]),
  (590, .aload_n 0, 1, []),
  (591, .bipush 26, 2, []),
  (593, .newarray .boolean, 2, [4]),
  (595, .putfield 116, 3, [8, 62, 0, 1190]),
  (598, .aload_n 0, 1, []),
  (599, .sipush 128, 3, []),
  (602, .newarray .double, 2, [2]),
  (604, .putfield 119, 3, [8, 63, 0, 1191]),
  (607, .aload_n 0, 1, []),
  (608, .sipush 128, 3, []),
  (611, .newarray .boolean, 2, [4]),
  (613, .putfield 122, 3, [8, 64, 0, 1192]),
  (616, .aload_n 0, 1, []),
  (617, .sipush 128, 3, []),
  (620, .newarray .double, 2, [2]),
  (622, .putfield 125, 3, [8, 65, 0, 1193]),
  (625, .aload_n 0, 1, []),
  (626, .sipush 128, 3, []),
  (629, .newarray .boolean, 2, [4])]
def an_q8_6 : List (Nat × am_Q) := [(631, .putfield 128, 3, [8, 66, 0, 1194]),
  (634, .return_, 1, [])]
def an_q8 : List (Nat × am_Q) := an_q8_0 ++ an_q8_1 ++ an_q8_2 ++ an_q8_3 ++ an_q8_4 ++ an_q8_5 ++ an_q8_6
set_option maxRecDepth 100000 in
theorem an_c8_0 : an_chk an_Nc "SureSumsModel" prog_10_method_1_code an_q8_0 = true := by decide +kernel
set_option maxRecDepth 100000 in
theorem an_c8_1 : an_chk an_Nc "SureSumsModel" prog_10_method_1_code an_q8_1 = true := by decide +kernel
set_option maxRecDepth 100000 in
theorem an_c8_2 : an_chk an_Nc "SureSumsModel" prog_10_method_1_code an_q8_2 = true := by decide +kernel
set_option maxRecDepth 100000 in
theorem an_c8_3 : an_chk an_Nc "SureSumsModel" prog_10_method_1_code an_q8_3 = true := by decide +kernel
set_option maxRecDepth 100000 in
theorem an_c8_4 : an_chk an_Nc "SureSumsModel" prog_10_method_1_code an_q8_4 = true := by decide +kernel
set_option maxRecDepth 100000 in
theorem an_c8_5 : an_chk an_Nc "SureSumsModel" prog_10_method_1_code an_q8_5 = true := by decide +kernel
set_option maxRecDepth 100000 in
theorem an_c8_6 : an_chk an_Nc "SureSumsModel" prog_10_method_1_code an_q8_6 = true := by decide +kernel
theorem an_c8 : an_chk an_Nc "SureSumsModel" prog_10_method_1_code an_q8 = true := by
  simp only [an_q8, an_chk, List.all_append, Bool.and_eq_true]
  exact ⟨⟨⟨⟨⟨⟨an_c8_0, an_c8_1⟩, an_c8_2⟩, an_c8_3⟩, an_c8_4⟩, an_c8_5⟩, an_c8_6⟩
def an_Yc (j : Nat) : Option an_Y := match j with
  | 0 => some (fun pc => an_q0.lookup pc, 3)
  | 1 => some (fun pc => an_q1.lookup pc, 2)
  | 2 => some (fun pc => an_q2.lookup pc, 1)
  | 3 => some (fun pc => an_q3.lookup pc, 1)
  | 4 => some (fun pc => an_q4.lookup pc, 2)
  | 5 => some (fun pc => an_q5.lookup pc, 2)
  | 6 => some (fun pc => an_q6.lookup pc, 1)
  | 7 => some (fun pc => an_q7.lookup pc, 1)
  | 8 => some (fun pc => an_q8.lookup pc, 1)
  | _ => none
theorem an_yk_ok : an_yk am_U an_Nc am_Nm an_Yc := by
  intro j y hy
  match j, hy with
  | 0, hy => cases hy; exact ⟨_, rfl, rfl, rfl, rfl, fun pc q hq => an_chk_at an_c0 hq⟩
  | 1, hy => cases hy; exact ⟨_, rfl, rfl, rfl, rfl, fun pc q hq => an_chk_at an_c1 hq⟩
  | 2, hy => cases hy; exact ⟨_, rfl, rfl, rfl, rfl, fun pc q hq => an_chk_at an_c2 hq⟩
  | 3, hy => cases hy; exact ⟨_, rfl, rfl, rfl, rfl, fun pc q hq => an_chk_at an_c3 hq⟩
  | 4, hy => cases hy; exact ⟨_, rfl, rfl, rfl, rfl, fun pc q hq => an_chk_at an_c4 hq⟩
  | 5, hy => cases hy; exact ⟨_, rfl, rfl, rfl, rfl, fun pc q hq => an_chk_at an_c5 hq⟩
  | 6, hy => cases hy; exact ⟨_, rfl, rfl, rfl, rfl, fun pc q hq => an_chk_at an_c6 hq⟩
  | 7, hy => cases hy; exact ⟨_, rfl, rfl, rfl, rfl, fun pc q hq => an_chk_at an_c7 hq⟩
  | 8, hy => cases hy; exact ⟨_, rfl, rfl, rfl, rfl, fun pc q hq => an_chk_at an_c8 hq⟩
  | (n + 9), hy => cases hy
set_option maxRecDepth 100000 in
set_option maxHeartbeats 4000000 in
theorem an_codes : an_Nl.map (fun nm => Cond.code nm.1 nm.2.1 nm.2.2.1 nm.2.2.2) = ([405, 375, 353, 167, 245, 307, 251, 159, 1126] : List Nat).filterMap (fun i => lw_tbl[i]?) := rfl
set_option maxRecDepth 100000 in
theorem an_names : an_Nl.all (fun x => plainName x.1.cls && Nat.ble x.2.2.1 45 && an_mem (Cond.initialized x.1.cls) && decide (x.1.cls ≠ "java/lang/invoke/MethodHandle") && decide (x.1.cls ≠ "java/lang/invoke/VarHandle") && goodWord (Cond.code x.1 x.2.1 x.2.2.1 x.2.2.2)) = true := by decide +kernel
theorem an_nk_ok : ∀ j nm, an_Nc j = some nm → am_nk am_U nm := by
  intro j nm h
  have h1 := List.all_eq_true.mp an_names _ (List.mem_of_getElem? h)
  simp only [Bool.and_eq_true, decide_eq_true_eq] at h1
  obtain ⟨⟨⟨⟨⟨g1, g2⟩, g3⟩, g4⟩, g5⟩, g6⟩ := h1
  have hm : Cond.code nm.1 nm.2.1 nm.2.2.1 nm.2.2.2 ∈ lw_tbl := by
    have h2 : Cond.code nm.1 nm.2.1 nm.2.2.1 nm.2.2.2 ∈ an_Nl.map (fun nm => Cond.code nm.1 nm.2.1 nm.2.2.1 nm.2.2.2) := List.mem_map.mpr ⟨nm, List.mem_of_getElem? h, rfl⟩
    rw [an_codes] at h2
    obtain ⟨i, -, hi⟩ := List.mem_filterMap.mp h2
    exact List.mem_of_getElem? hi
  exact ⟨plainFor_of_name g1, Nat.le_of_ble_eq_true g2, List.mem_filter.mpr ⟨hm, by rw [g6]; rfl⟩, an_mem_ok g3, g4, g5⟩
