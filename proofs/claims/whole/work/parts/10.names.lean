def RX0 : String := "SureSums$Curve"
def TX0 : u_T := fun k => match k with
  | 0 => ("SureSums$Curve", "spans", "LSureSums$Spans;", true)
  | 1 => ("SureSums$Curve", "lows", "[J", true)
  | 2 => ("SureSums$Curve", "highs", "[J", true)
  | 3 => ("SureSums$Curve", "program", "LSureSums$Program;", false)
  | 4 => ("SureSums$Curve", "line", "I", false)
  | 5 => ("SureSums$Curve", "column", "I", false)
  | 6 => ("SureSums$Curve", "hasWhole", "Z", false)
  | 7 => ("SureSums$Curve", "wholeLow", "J", false)
  | 8 => ("SureSums$Curve", "wholeHigh", "J", false)
  | _ => ("SureSums$Curve", "placesAsked", "I", false)
def RX1 : String := "SureSums$Doubles"
def TX1 : u_T := fun k => match k with
  | 0 => ("SureSums$Doubles", "results", "[D", true)
  | 1 => ("SureSums$Doubles", "states", "[I", true)
  | 2 => ("SureSums$Doubles", "values", "[D", true)
  | 3 => ("SureSums$Doubles", "lost", "[Z", true)
  | 4 => ("SureSums$Doubles", "top", "I", false)
  | 5 => ("SureSums$Doubles", "program", "LSureSums$Program;", false)
  | _ => ("SureSums$Doubles", "found", "D", false)
def RX2 : String := "SureSums$Fractions"
def TX2 : u_T := fun k => match k with
  | 0 => ("SureSums$Fractions", "uppers", "[J", true)
  | 1 => ("SureSums$Fractions", "lowers", "[J", true)
  | 2 => ("SureSums$Fractions", "upperRow", "[J", true)
  | 3 => ("SureSums$Fractions", "lowerRow", "[J", true)
  | _ => ("SureSums$Fractions", "top", "I", false)
def RX3 : String := "SureSums$Program"
def TX3 : u_T := fun k => match k with
  | 0 => ("SureSums$Program", "lineOf", "[I", true)
  | 1 => ("SureSums$Program", "function", "[Z", true)
  | 2 => ("SureSums$Program", "starts", "[I", true)
  | 3 => ("SureSums$Program", "ends", "[I", true)
  | 4 => ("SureSums$Program", "ops", "[I", true)
  | 5 => ("SureSums$Program", "arguments", "[I", true)
  | 6 => ("SureSums$Program", "froms", "[I", true)
  | 7 => ("SureSums$Program", "tos", "[I", true)
  | 8 => ("SureSums$Program", "size", "I", false)
  | 9 => ("SureSums$Program", "lines", "I", false)
  | 10 => ("SureSums$Program", "numbers", "I", false)
  | 11 => ("SureSums$Program", "functions", "I", false)
  | _ => ("SureSums$Program", "knots", "I", false)
def RX4 : String := "SureSums$Reader"
def TX4 : u_T := fun k => match k with
  | 0 => ("SureSums$Reader", "tokens", "LSureSums$Tokens;", true)
  | 1 => ("SureSums$Reader", "into", "LSureSums$Program;", false)
  | 2 => ("SureSums$Reader", "next", "I", false)
  | 3 => ("SureSums$Reader", "token", "I", false)
  | 4 => ("SureSums$Reader", "tokenValue", "I", false)
  | 5 => ("SureSums$Reader", "open", "I", false)
  | 6 => ("SureSums$Reader", "inFunction", "Z", false)
  | 7 => ("SureSums$Reader", "bound", "I", false)
  | 8 => ("SureSums$Reader", "faultKind", "I", false)
  | _ => ("SureSums$Reader", "faultPlace", "I", false)
def RX5 : String := "SureSums$Spans"
def TX5 : u_T := fun k => match k with
  | 0 => ("SureSums$Spans", "lows", "[J", true)
  | 1 => ("SureSums$Spans", "highs", "[J", true)
  | 2 => ("SureSums$Spans", "choices", "[I", true)
  | 3 => ("SureSums$Spans", "top", "I", false)
  | 4 => ("SureSums$Spans", "chosen", "I", false)
  | 5 => ("SureSums$Spans", "program", "LSureSums$Program;", false)
  | 6 => ("SureSums$Spans", "bits", "I", false)
  | 7 => ("SureSums$Spans", "limit", "J", false)
  | 8 => ("SureSums$Spans", "work", "I", false)
  | 9 => ("SureSums$Spans", "foundLow", "J", false)
  | _ => ("SureSums$Spans", "foundHigh", "J", false)
def RX6 : String := "SureSums$Tokens"
def TX6 : u_T := fun k => match k with
  | 0 => ("SureSums$Tokens", "kinds", "[I", true)
  | 1 => ("SureSums$Tokens", "places", "[I", true)
  | 2 => ("SureSums$Tokens", "values", "[I", true)
  | _ => ("SureSums$Tokens", "size", "I", false)
def RX7 : String := "SureSums"
def TX7 : u_T := fun k => match k with
  | 0 => ("SureSums", "tape", "[I", true)
  | 1 => ("SureSums", "told", "LSureSums$Program;", false)
  | 2 => ("SureSums", "spare", "LSureSums$Program;", false)
  | 3 => ("SureSums", "reader", "LSureSums$Reader;", true)
  | 4 => ("SureSums", "spans", "LSureSums$Spans;", true)
  | 5 => ("SureSums", "fractions", "LSureSums$Fractions;", true)
  | 6 => ("SureSums", "doubles", "LSureSums$Doubles;", true)
  | 7 => ("SureSums", "curve", "LSureSums$Curve;", true)
  | 8 => ("SureSums", "taped", "I", false)
  | 9 => ("SureSums", "latestFault", "I", false)
  | _ => ("SureSums", "latestPlace", "I", false)
def RX8 : String := "SureSumsModel"
def TX8 : u_T := fun k => match k with
  | 0 => ("SureSumsModel", "tape", "[I", true)
  | 1 => ("SureSumsModel", "tapeSize", "I", false)
  | 2 => ("SureSumsModel", "thrown", "I", false)
  | 3 => ("SureSumsModel", "words", "[I", true)
  | 4 => ("SureSumsModel", "fault", "I", false)
  | 5 => ("SureSumsModel", "faultPlace", "I", false)
  | 6 => ("SureSumsModel", "stop", "I", false)
  | 7 => ("SureSumsModel", "next", "I", false)
  | 8 => ("SureSumsModel", "kind", "I", false)
  | 9 => ("SureSumsModel", "which", "I", false)
  | 10 => ("SureSumsModel", "place", "I", false)
  | 11 => ("SureSumsModel", "knot", "[I", true)
  | 12 => ("SureSumsModel", "number", "[I", true)
  | 13 => ("SureSumsModel", "first", "[I", true)
  | 14 => ("SureSumsModel", "second", "[I", true)
  | 15 => ("SureSumsModel", "third", "[I", true)
  | 16 => ("SureSumsModel", "fourth", "[I", true)
  | 17 => ("SureSumsModel", "knots", "I", false)
  | 18 => ("SureSumsModel", "knotsRead", "I", false)
  | 19 => ("SureSumsModel", "told", "[I", true)
  | 20 => ("SureSumsModel", "rootOf", "[I", true)
  | 21 => ("SureSumsModel", "lines", "I", false)
  | 22 => ("SureSumsModel", "order", "[I", true)
  | 23 => ("SureSumsModel", "orderRead", "[I", true)
  | 24 => ("SureSumsModel", "lets", "I", false)
  | 25 => ("SureSumsModel", "funs", "I", false)
  | 26 => ("SureSumsModel", "letsRead", "I", false)
  | 27 => ("SureSumsModel", "funsRead", "I", false)
  | 28 => ("SureSumsModel", "wait", "[I", true)
  | 29 => ("SureSumsModel", "waitOf", "[I", true)
  | 30 => ("SureSumsModel", "stage", "[I", true)
  | 31 => ("SureSumsModel", "waits", "I", false)
  | 32 => ("SureSumsModel", "held", "[I", true)
  | 33 => ("SureSumsModel", "helds", "I", false)
  | 34 => ("SureSumsModel", "open", "I", false)
  | 35 => ("SureSumsModel", "wantsValue", "Z", false)
  | 36 => ("SureSumsModel", "isFunction", "Z", false)
  | 37 => ("SureSumsModel", "frame", "[I", true)
  | 38 => ("SureSumsModel", "step", "[I", true)
  | 39 => ("SureSumsModel", "argLow", "[J", true)
  | 40 => ("SureSumsModel", "argHigh", "[J", true)
  | 41 => ("SureSumsModel", "oneLow", "[J", true)
  | 42 => ("SureSumsModel", "oneHigh", "[J", true)
  | 43 => ("SureSumsModel", "oneHas", "[Z", true)
  | 44 => ("SureSumsModel", "otherLow", "[J", true)
  | 45 => ("SureSumsModel", "otherHigh", "[J", true)
  | 46 => ("SureSumsModel", "otherHas", "[Z", true)
  | 47 => ("SureSumsModel", "depth", "I", false)
  | 48 => ("SureSumsModel", "bits", "I", false)
  | 49 => ("SureSumsModel", "work", "I", false)
  | 50 => ("SureSumsModel", "has", "Z", false)
  | 51 => ("SureSumsModel", "low", "J", false)
  | 52 => ("SureSumsModel", "high", "J", false)
  | 53 => ("SureSumsModel", "upperOf", "[J", true)
  | 54 => ("SureSumsModel", "lowerOf", "[J", true)
  | 55 => ("SureSumsModel", "isExact", "[Z", true)
  | 56 => ("SureSumsModel", "partUpper", "[J", true)
  | 57 => ("SureSumsModel", "partLower", "[J", true)
  | 58 => ("SureSumsModel", "trail", "[I", true)
  | 59 => ("SureSumsModel", "hasExact", "Z", false)
  | 60 => ("SureSumsModel", "hasMachine", "Z", false)
  | 61 => ("SureSumsModel", "machineOf", "[D", true)
  | 62 => ("SureSumsModel", "noMachine", "[Z", true)
  | 63 => ("SureSumsModel", "arg", "[D", true)
  | 64 => ("SureSumsModel", "noArg", "[Z", true)
  | 65 => ("SureSumsModel", "one", "[D", true)
  | 66 => ("SureSumsModel", "noOne", "[Z", true)
  | 67 => ("SureSumsModel", "result", "D", false)
  | _ => ("SureSumsModel", "isNo", "Z", false)
abbrev am_cl : List vw_C := [(RX0, TX0, 10), (RX1, TX1, 7), (RX2, TX2, 5), (RX3, TX3, 13), (RX4, TX4, 10), (RX5, TX5, 11), (RX6, TX6, 4), (RX7, TX7, 11), (RX8, TX8, 69)]
def am_k0 : List Nat := [3, 3, 3, 3, 0, 0, 4, 1, 1, 0]
def am_k1 : List Nat := [3, 3, 3, 3, 0, 3, 2]
def am_k2 : List Nat := [3, 3, 3, 3, 0]
def am_k3 : List Nat := [3, 3, 3, 3, 3, 3, 3, 3, 0, 0, 0, 0, 0]
def am_k4 : List Nat := [3, 3, 0, 0, 0, 0, 4, 0, 0, 0]
def am_k5 : List Nat := [3, 3, 3, 0, 0, 3, 0, 1, 0, 1, 1]
def am_k6 : List Nat := [3, 3, 3, 0]
def am_k7 : List Nat := [3, 3, 3, 3, 3, 3, 3, 3, 0, 0, 0]
def am_k8 : List Nat := [3, 0, 0, 3, 0, 0, 0, 0, 0, 0, 0, 3, 3, 3, 3, 3, 3, 0, 0, 3, 3, 0, 3, 3, 0, 0, 0, 0, 3, 3, 3, 0, 3, 0, 0, 4, 4, 3, 3, 3, 3, 3, 3, 3, 3, 3, 3, 0, 0, 0, 4, 1, 1, 3, 3, 3, 3, 3, 3, 4, 4, 3, 3, 3, 3, 3, 3, 2, 4]
/-- the words of the tables that hold in every state of the run -/
def am_U : List Cond := lw_tbl.filter (fun w => goodWord w || am_nest w)
def am_at (pos : Nat) (w : Cond) : Bool := decide (lw_tbl[pos]? = some w) && (goodWord w || am_nest w)
theorem am_at_mem {pos : Nat} {w : Cond} (h : am_at pos w = true) : w ∈ am_U := by
  unfold am_at at h
  simp only [Bool.and_eq_true, decide_eq_true_eq] at h
  exact List.mem_filter.mpr ⟨List.mem_of_getElem? h.1, h.2⟩
theorem am_U_uw : am_uw am_U := by
  intro w hw
  have h := (List.mem_filter.mp hw).2
  simpa using h
theorem am_u0 : ∀ w ∈ u_ws RX0 TX0 10, w ∈ am_U := by
  have h : ((u_ws RX0 TX0 10).zip [417, 419, 421, 423, 425, 427, 429, 431, 433, 435]).all (fun q => am_at q.2 q.1) = true := by decide +kernel
  intro w hw
  obtain ⟨i, hi⟩ := List.mem_iff_getElem?.mp hw
  have hl : i < 10 := (List.getElem?_eq_some_iff.mp hi).1
  have hz : ((u_ws RX0 TX0 10).zip [417, 419, 421, 423, 425, 427, 429, 431, 433, 435])[i]? = some (w, ([417, 419, 421, 423, 425, 427, 429, 431, 433, 435] : List Nat)[i]'hl) := by
    rw [List.getElem?_zip_eq_some]
    exact ⟨hi, List.getElem?_eq_getElem hl⟩
  exact am_at_mem (List.all_eq_true.mp h _ (List.mem_of_getElem? hz))
def tyX0 : Nat → FieldType := fun k => match k with
  | 0 => .object "SureSums$Spans"
  | 1 => .array .long
  | 2 => .array .long
  | 3 => .object "SureSums$Program"
  | 4 => .int
  | 5 => .int
  | 6 => .boolean
  | 7 => .long
  | 8 => .long
  | _ => .int
theorem am_t0 : ∀ k, k < 10 → parseFieldDescriptor (TX0 k).2.2.1 = some (tyX0 k) := by decide +kernel
theorem am_n0 : ∀ a, a < 10 → ∀ b, b < 10 → a ≠ b → (TX0 a).2.1 ≠ (TX0 b).2.1 := by decide +kernel
theorem am_s0 : am_k0.length = 10 ∧ ∀ k, k < 10 → am_tk (tyX0 k) (am_k0.getD k 0) = true := by decide +kernel
theorem am_u1 : ∀ w ∈ u_ws RX1 TX1 7, w ∈ am_U := by
  have h : ((u_ws RX1 TX1 7).zip [385, 387, 389, 391, 393, 395, 397]).all (fun q => am_at q.2 q.1) = true := by decide +kernel
  intro w hw
  obtain ⟨i, hi⟩ := List.mem_iff_getElem?.mp hw
  have hl : i < 7 := (List.getElem?_eq_some_iff.mp hi).1
  have hz : ((u_ws RX1 TX1 7).zip [385, 387, 389, 391, 393, 395, 397])[i]? = some (w, ([385, 387, 389, 391, 393, 395, 397] : List Nat)[i]'hl) := by
    rw [List.getElem?_zip_eq_some]
    exact ⟨hi, List.getElem?_eq_getElem hl⟩
  exact am_at_mem (List.all_eq_true.mp h _ (List.mem_of_getElem? hz))
def tyX1 : Nat → FieldType := fun k => match k with
  | 0 => .array .double
  | 1 => .array .int
  | 2 => .array .double
  | 3 => .array .boolean
  | 4 => .int
  | 5 => .object "SureSums$Program"
  | _ => .double
theorem am_t1 : ∀ k, k < 7 → parseFieldDescriptor (TX1 k).2.2.1 = some (tyX1 k) := by decide +kernel
theorem am_n1 : ∀ a, a < 7 → ∀ b, b < 7 → a ≠ b → (TX1 a).2.1 ≠ (TX1 b).2.1 := by decide +kernel
theorem am_s1 : am_k1.length = 7 ∧ ∀ k, k < 7 → am_tk (tyX1 k) (am_k1.getD k 0) = true := by decide +kernel
theorem am_u2 : ∀ w ∈ u_ws RX2 TX2 5, w ∈ am_U := by
  have h : ((u_ws RX2 TX2 5).zip [360, 362, 364, 366, 368]).all (fun q => am_at q.2 q.1) = true := by decide +kernel
  intro w hw
  obtain ⟨i, hi⟩ := List.mem_iff_getElem?.mp hw
  have hl : i < 5 := (List.getElem?_eq_some_iff.mp hi).1
  have hz : ((u_ws RX2 TX2 5).zip [360, 362, 364, 366, 368])[i]? = some (w, ([360, 362, 364, 366, 368] : List Nat)[i]'hl) := by
    rw [List.getElem?_zip_eq_some]
    exact ⟨hi, List.getElem?_eq_getElem hl⟩
  exact am_at_mem (List.all_eq_true.mp h _ (List.mem_of_getElem? hz))
def tyX2 : Nat → FieldType := fun k => match k with
  | 0 => .array .long
  | 1 => .array .long
  | 2 => .array .long
  | 3 => .array .long
  | _ => .int
theorem am_t2 : ∀ k, k < 5 → parseFieldDescriptor (TX2 k).2.2.1 = some (tyX2 k) := by decide +kernel
theorem am_n2 : ∀ a, a < 5 → ∀ b, b < 5 → a ≠ b → (TX2 a).2.1 ≠ (TX2 b).2.1 := by decide +kernel
theorem am_s2 : am_k2.length = 5 ∧ ∀ k, k < 5 → am_tk (tyX2 k) (am_k2.getD k 0) = true := by decide +kernel
theorem am_u3 : ∀ w ∈ u_ws RX3 TX3 13, w ∈ am_U := by
  have h : ((u_ws RX3 TX3 13).zip [212, 214, 216, 218, 220, 222, 224, 226, 228, 230, 232, 234, 236]).all (fun q => am_at q.2 q.1) = true := by decide +kernel
  intro w hw
  obtain ⟨i, hi⟩ := List.mem_iff_getElem?.mp hw
  have hl : i < 13 := (List.getElem?_eq_some_iff.mp hi).1
  have hz : ((u_ws RX3 TX3 13).zip [212, 214, 216, 218, 220, 222, 224, 226, 228, 230, 232, 234, 236])[i]? = some (w, ([212, 214, 216, 218, 220, 222, 224, 226, 228, 230, 232, 234, 236] : List Nat)[i]'hl) := by
    rw [List.getElem?_zip_eq_some]
    exact ⟨hi, List.getElem?_eq_getElem hl⟩
  exact am_at_mem (List.all_eq_true.mp h _ (List.mem_of_getElem? hz))
def tyX3 : Nat → FieldType := fun k => match k with
  | 0 => .array .int
  | 1 => .array .boolean
  | 2 => .array .int
  | 3 => .array .int
  | 4 => .array .int
  | 5 => .array .int
  | 6 => .array .int
  | 7 => .array .int
  | 8 => .int
  | 9 => .int
  | 10 => .int
  | 11 => .int
  | _ => .int
theorem am_t3 : ∀ k, k < 13 → parseFieldDescriptor (TX3 k).2.2.1 = some (tyX3 k) := by decide +kernel
theorem am_n3 : ∀ a, a < 13 → ∀ b, b < 13 → a ≠ b → (TX3 a).2.1 ≠ (TX3 b).2.1 := by decide +kernel
theorem am_s3 : am_k3.length = 13 ∧ ∀ k, k < 13 → am_tk (tyX3 k) (am_k3.getD k 0) = true := by decide +kernel
theorem am_u4 : ∀ w ∈ u_ws RX4 TX4 10, w ∈ am_U := by
  have h : ((u_ws RX4 TX4 10).zip [282, 284, 286, 288, 290, 292, 294, 296, 298, 300]).all (fun q => am_at q.2 q.1) = true := by decide +kernel
  intro w hw
  obtain ⟨i, hi⟩ := List.mem_iff_getElem?.mp hw
  have hl : i < 10 := (List.getElem?_eq_some_iff.mp hi).1
  have hz : ((u_ws RX4 TX4 10).zip [282, 284, 286, 288, 290, 292, 294, 296, 298, 300])[i]? = some (w, ([282, 284, 286, 288, 290, 292, 294, 296, 298, 300] : List Nat)[i]'hl) := by
    rw [List.getElem?_zip_eq_some]
    exact ⟨hi, List.getElem?_eq_getElem hl⟩
  exact am_at_mem (List.all_eq_true.mp h _ (List.mem_of_getElem? hz))
def tyX4 : Nat → FieldType := fun k => match k with
  | 0 => .object "SureSums$Tokens"
  | 1 => .object "SureSums$Program"
  | 2 => .int
  | 3 => .int
  | 4 => .int
  | 5 => .int
  | 6 => .boolean
  | 7 => .int
  | 8 => .int
  | _ => .int
theorem am_t4 : ∀ k, k < 10 → parseFieldDescriptor (TX4 k).2.2.1 = some (tyX4 k) := by decide +kernel
theorem am_n4 : ∀ a, a < 10 → ∀ b, b < 10 → a ≠ b → (TX4 a).2.1 ≠ (TX4 b).2.1 := by decide +kernel
theorem am_s4 : am_k4.length = 10 ∧ ∀ k, k < 10 → am_tk (tyX4 k) (am_k4.getD k 0) = true := by decide +kernel
theorem am_u5 : ∀ w ∈ u_ws RX5 TX5 11, w ∈ am_U := by
  have h : ((u_ws RX5 TX5 11).zip [325, 327, 329, 331, 333, 335, 337, 339, 341, 343, 345]).all (fun q => am_at q.2 q.1) = true := by decide +kernel
  intro w hw
  obtain ⟨i, hi⟩ := List.mem_iff_getElem?.mp hw
  have hl : i < 11 := (List.getElem?_eq_some_iff.mp hi).1
  have hz : ((u_ws RX5 TX5 11).zip [325, 327, 329, 331, 333, 335, 337, 339, 341, 343, 345])[i]? = some (w, ([325, 327, 329, 331, 333, 335, 337, 339, 341, 343, 345] : List Nat)[i]'hl) := by
    rw [List.getElem?_zip_eq_some]
    exact ⟨hi, List.getElem?_eq_getElem hl⟩
  exact am_at_mem (List.all_eq_true.mp h _ (List.mem_of_getElem? hz))
def tyX5 : Nat → FieldType := fun k => match k with
  | 0 => .array .long
  | 1 => .array .long
  | 2 => .array .int
  | 3 => .int
  | 4 => .int
  | 5 => .object "SureSums$Program"
  | 6 => .int
  | 7 => .long
  | 8 => .int
  | 9 => .long
  | _ => .long
theorem am_t5 : ∀ k, k < 11 → parseFieldDescriptor (TX5 k).2.2.1 = some (tyX5 k) := by decide +kernel
theorem am_n5 : ∀ a, a < 11 → ∀ b, b < 11 → a ≠ b → (TX5 a).2.1 ≠ (TX5 b).2.1 := by decide +kernel
theorem am_s5 : am_k5.length = 11 ∧ ∀ k, k < 11 → am_tk (tyX5 k) (am_k5.getD k 0) = true := by decide +kernel
theorem am_u6 : ∀ w ∈ u_ws RX6 TX6 4, w ∈ am_U := by
  have h : ((u_ws RX6 TX6 4).zip [261, 263, 265, 267]).all (fun q => am_at q.2 q.1) = true := by decide +kernel
  intro w hw
  obtain ⟨i, hi⟩ := List.mem_iff_getElem?.mp hw
  have hl : i < 4 := (List.getElem?_eq_some_iff.mp hi).1
  have hz : ((u_ws RX6 TX6 4).zip [261, 263, 265, 267])[i]? = some (w, ([261, 263, 265, 267] : List Nat)[i]'hl) := by
    rw [List.getElem?_zip_eq_some]
    exact ⟨hi, List.getElem?_eq_getElem hl⟩
  exact am_at_mem (List.all_eq_true.mp h _ (List.mem_of_getElem? hz))
def tyX6 : Nat → FieldType := fun k => match k with
  | 0 => .array .int
  | 1 => .array .int
  | 2 => .array .int
  | _ => .int
theorem am_t6 : ∀ k, k < 4 → parseFieldDescriptor (TX6 k).2.2.1 = some (tyX6 k) := by decide +kernel
theorem am_n6 : ∀ a, a < 4 → ∀ b, b < 4 → a ≠ b → (TX6 a).2.1 ≠ (TX6 b).2.1 := by decide +kernel
theorem am_s6 : am_k6.length = 4 ∧ ∀ k, k < 4 → am_tk (tyX6 k) (am_k6.getD k 0) = true := by decide +kernel
theorem am_u7 : ∀ w ∈ u_ws RX7 TX7 11, w ∈ am_U := by
  have h : ((u_ws RX7 TX7 11).zip [449, 451, 453, 455, 457, 459, 461, 463, 465, 467, 469]).all (fun q => am_at q.2 q.1) = true := by decide +kernel
  intro w hw
  obtain ⟨i, hi⟩ := List.mem_iff_getElem?.mp hw
  have hl : i < 11 := (List.getElem?_eq_some_iff.mp hi).1
  have hz : ((u_ws RX7 TX7 11).zip [449, 451, 453, 455, 457, 459, 461, 463, 465, 467, 469])[i]? = some (w, ([449, 451, 453, 455, 457, 459, 461, 463, 465, 467, 469] : List Nat)[i]'hl) := by
    rw [List.getElem?_zip_eq_some]
    exact ⟨hi, List.getElem?_eq_getElem hl⟩
  exact am_at_mem (List.all_eq_true.mp h _ (List.mem_of_getElem? hz))
def tyX7 : Nat → FieldType := fun k => match k with
  | 0 => .array .int
  | 1 => .object "SureSums$Program"
  | 2 => .object "SureSums$Program"
  | 3 => .object "SureSums$Reader"
  | 4 => .object "SureSums$Spans"
  | 5 => .object "SureSums$Fractions"
  | 6 => .object "SureSums$Doubles"
  | 7 => .object "SureSums$Curve"
  | 8 => .int
  | 9 => .int
  | _ => .int
theorem am_t7 : ∀ k, k < 11 → parseFieldDescriptor (TX7 k).2.2.1 = some (tyX7 k) := by decide +kernel
theorem am_n7 : ∀ a, a < 11 → ∀ b, b < 11 → a ≠ b → (TX7 a).2.1 ≠ (TX7 b).2.1 := by decide +kernel
theorem am_s7 : am_k7.length = 11 ∧ ∀ k, k < 11 → am_tk (tyX7 k) (am_k7.getD k 0) = true := by decide +kernel
theorem am_u8 : ∀ w ∈ u_ws RX8 TX8 69, w ∈ am_U := by
  have h : ((u_ws RX8 TX8 69).zip [1197, 1199, 1201, 1203, 1205, 1207, 1209, 1211, 1213, 1215, 1217, 1219, 1221, 1223, 1225, 1227, 1229, 1231, 1233, 1235, 1237, 1239, 1241, 1243, 1245, 1247, 1249, 1251, 1253, 1255, 1257, 1259, 1261, 1263, 1265, 1267, 1269, 1271, 1273, 1275, 1277, 1279, 1281, 1283, 1285, 1287, 1289, 1291, 1293, 1295, 1297, 1299, 1301, 1303, 1305, 1307, 1309, 1311, 1313, 1315, 1317, 1319, 1321, 1323, 1325, 1327, 1329, 1331, 1333]).all (fun q => am_at q.2 q.1) = true := by decide +kernel
  intro w hw
  obtain ⟨i, hi⟩ := List.mem_iff_getElem?.mp hw
  have hl : i < 69 := (List.getElem?_eq_some_iff.mp hi).1
  have hz : ((u_ws RX8 TX8 69).zip [1197, 1199, 1201, 1203, 1205, 1207, 1209, 1211, 1213, 1215, 1217, 1219, 1221, 1223, 1225, 1227, 1229, 1231, 1233, 1235, 1237, 1239, 1241, 1243, 1245, 1247, 1249, 1251, 1253, 1255, 1257, 1259, 1261, 1263, 1265, 1267, 1269, 1271, 1273, 1275, 1277, 1279, 1281, 1283, 1285, 1287, 1289, 1291, 1293, 1295, 1297, 1299, 1301, 1303, 1305, 1307, 1309, 1311, 1313, 1315, 1317, 1319, 1321, 1323, 1325, 1327, 1329, 1331, 1333])[i]? = some (w, ([1197, 1199, 1201, 1203, 1205, 1207, 1209, 1211, 1213, 1215, 1217, 1219, 1221, 1223, 1225, 1227, 1229, 1231, 1233, 1235, 1237, 1239, 1241, 1243, 1245, 1247, 1249, 1251, 1253, 1255, 1257, 1259, 1261, 1263, 1265, 1267, 1269, 1271, 1273, 1275, 1277, 1279, 1281, 1283, 1285, 1287, 1289, 1291, 1293, 1295, 1297, 1299, 1301, 1303, 1305, 1307, 1309, 1311, 1313, 1315, 1317, 1319, 1321, 1323, 1325, 1327, 1329, 1331, 1333] : List Nat)[i]'hl) := by
    rw [List.getElem?_zip_eq_some]
    exact ⟨hi, List.getElem?_eq_getElem hl⟩
  exact am_at_mem (List.all_eq_true.mp h _ (List.mem_of_getElem? hz))
def tyX8 : Nat → FieldType := fun k => match k with
  | 0 => .array .int
  | 1 => .int
  | 2 => .int
  | 3 => .array .int
  | 4 => .int
  | 5 => .int
  | 6 => .int
  | 7 => .int
  | 8 => .int
  | 9 => .int
  | 10 => .int
  | 11 => .array .int
  | 12 => .array .int
  | 13 => .array .int
  | 14 => .array .int
  | 15 => .array .int
  | 16 => .array .int
  | 17 => .int
  | 18 => .int
  | 19 => .array .int
  | 20 => .array .int
  | 21 => .int
  | 22 => .array .int
  | 23 => .array .int
  | 24 => .int
  | 25 => .int
  | 26 => .int
  | 27 => .int
  | 28 => .array .int
  | 29 => .array .int
  | 30 => .array .int
  | 31 => .int
  | 32 => .array .int
  | 33 => .int
  | 34 => .int
  | 35 => .boolean
  | 36 => .boolean
  | 37 => .array .int
  | 38 => .array .int
  | 39 => .array .long
  | 40 => .array .long
  | 41 => .array .long
  | 42 => .array .long
  | 43 => .array .boolean
  | 44 => .array .long
  | 45 => .array .long
  | 46 => .array .boolean
  | 47 => .int
  | 48 => .int
  | 49 => .int
  | 50 => .boolean
  | 51 => .long
  | 52 => .long
  | 53 => .array .long
  | 54 => .array .long
  | 55 => .array .boolean
  | 56 => .array .long
  | 57 => .array .long
  | 58 => .array .int
  | 59 => .boolean
  | 60 => .boolean
  | 61 => .array .double
  | 62 => .array .boolean
  | 63 => .array .double
  | 64 => .array .boolean
  | 65 => .array .double
  | 66 => .array .boolean
  | 67 => .double
  | _ => .boolean
theorem am_t8 : ∀ k, k < 69 → parseFieldDescriptor (TX8 k).2.2.1 = some (tyX8 k) := by decide +kernel
theorem am_n8 : ∀ a, a < 69 → ∀ b, b < 69 → a ≠ b → (TX8 a).2.1 ≠ (TX8 b).2.1 := by decide +kernel
theorem am_s8 : am_k8.length = 69 ∧ ∀ k, k < 69 → am_tk (tyX8 k) (am_k8.getD k 0) = true := by decide +kernel
theorem am_cl_ok : am_cls am_cl am_U := by
  intro ci r h
  match ci, h with
  | 0, h => cases h; exact ⟨am_u0, ⟨tyX0, am_t0⟩, am_n0⟩
  | 1, h => cases h; exact ⟨am_u1, ⟨tyX1, am_t1⟩, am_n1⟩
  | 2, h => cases h; exact ⟨am_u2, ⟨tyX2, am_t2⟩, am_n2⟩
  | 3, h => cases h; exact ⟨am_u3, ⟨tyX3, am_t3⟩, am_n3⟩
  | 4, h => cases h; exact ⟨am_u4, ⟨tyX4, am_t4⟩, am_n4⟩
  | 5, h => cases h; exact ⟨am_u5, ⟨tyX5, am_t5⟩, am_n5⟩
  | 6, h => cases h; exact ⟨am_u6, ⟨tyX6, am_t6⟩, am_n6⟩
  | 7, h => cases h; exact ⟨am_u7, ⟨tyX7, am_t7⟩, am_n7⟩
  | 8, h => cases h; exact ⟨am_u8, ⟨tyX8, am_t8⟩, am_n8⟩
  | (n + 9), h => cases h
def am_ks (ci : Nat) : List Nat := match ci with
  | 0 => am_k0
  | 1 => am_k1
  | 2 => am_k2
  | 3 => am_k3
  | 4 => am_k4
  | 5 => am_k5
  | 6 => am_k6
  | 7 => am_k7
  | 8 => am_k8
  | _ => []
/-- a shape whose objects have the slots of their classes -/
def am_shB (sh : am_Sh) : Bool := sh.all (fun x => match x with | .inl o => decide (o.1 < 9) && decide (o.2 = am_ks o.1) | .inr _ => true)
theorem am_shk_of {sh : am_Sh} (h : am_shB sh = true) : am_shk am_cl sh := by
  intro a ci ks ha
  have h1 := List.all_eq_true.mp h _ (List.mem_of_getElem? ha)
  simp only [Bool.and_eq_true, decide_eq_true_eq] at h1
  obtain ⟨h2, rfl⟩ := h1
  have go : ∀ (r : vw_C) (ty0 : Nat → FieldType) (ks : List Nat), (∀ k, k < r.2.2 → parseFieldDescriptor (r.2.1 k).2.2.1 = some (ty0 k)) → (ks.length = r.2.2 ∧ ∀ k, k < r.2.2 → am_tk (ty0 k) (ks.getD k 0) = true) → ks.length = r.2.2 ∧ ∀ (k ty : Nat), ks[k]? = some ty → ∃ t, parseFieldDescriptor (r.2.1 k).2.2.1 = some t ∧ am_tk t ty = true := by
    intro r ty0 ks h3 h4
    refine ⟨h4.1, fun k ty hk => ?_⟩
    have hl : k < r.2.2 := by rw [← h4.1]; exact (List.getElem?_eq_some_iff.mp hk).1
    refine ⟨ty0 k, h3 k hl, ?_⟩
    have := h4.2 k hl
    simpa [List.getD, hk] using this
  match ci, h2 with
  | 0, _ => exact ⟨_, rfl, go (RX0, TX0, 10) tyX0 am_k0 am_t0 am_s0⟩
  | 1, _ => exact ⟨_, rfl, go (RX1, TX1, 7) tyX1 am_k1 am_t1 am_s1⟩
  | 2, _ => exact ⟨_, rfl, go (RX2, TX2, 5) tyX2 am_k2 am_t2 am_s2⟩
  | 3, _ => exact ⟨_, rfl, go (RX3, TX3, 13) tyX3 am_k3 am_t3 am_s3⟩
  | 4, _ => exact ⟨_, rfl, go (RX4, TX4, 10) tyX4 am_k4 am_t4 am_s4⟩
  | 5, _ => exact ⟨_, rfl, go (RX5, TX5, 11) tyX5 am_k5 am_t5 am_s5⟩
  | 6, _ => exact ⟨_, rfl, go (RX6, TX6, 4) tyX6 am_k6 am_t6 am_s6⟩
  | 7, _ => exact ⟨_, rfl, go (RX7, TX7, 11) tyX7 am_k7 am_t7 am_s7⟩
  | 8, _ => exact ⟨_, rfl, go (RX8, TX8, 69) tyX8 am_k8 am_t8 am_s8⟩
  | (n + 9), h2 => exact absurd h2 (by omega)
def am_Nl : List am_N := [
  (⟨"SureSums$Curve", "piecesWithMost", "(LSureSums$Program;III)I"⟩, prog_2_method_2_code, 10, (Option.some Jvm.ClassFile.FieldType.int)),
  (⟨"SureSums$Curve", "goTo", "(LSureSums$Program;II)V"⟩, prog_2_method_3_code, 4, (Option.none : Option Jvm.ClassFile.FieldType)),
  (⟨"SureSums$Curve", "kindOfSquare", "(I)I"⟩, prog_2_method_4_code, 10, (Option.some Jvm.ClassFile.FieldType.int)),
  (⟨"SureSums$Doubles", "forget", "(LSureSums$Program;)V"⟩, prog_3_method_2_code, 2, (Option.none : Option Jvm.ClassFile.FieldType)),
  (⟨"SureSums$Doubles", "reckon", "(I)Z"⟩, prog_3_method_3_code, 3, (Option.some Jvm.ClassFile.FieldType.boolean)),
  (⟨"SureSums$Doubles", "numberLine", "(II)V"⟩, prog_3_method_4_code, 3, (Option.none : Option Jvm.ClassFile.FieldType)),
  (⟨"SureSums$Doubles", "keep", "(I)V"⟩, prog_3_method_5_code, 2, (Option.none : Option Jvm.ClassFile.FieldType)),
  (⟨"SureSums$Doubles", "run", "(IDZI)V"⟩, prog_3_method_6_code, 9, (Option.none : Option Jvm.ClassFile.FieldType)),
  (⟨"SureSums$Doubles", "perform", "(III)I"⟩, prog_3_method_7_code, 5, (Option.some Jvm.ClassFile.FieldType.int)),
  (⟨"SureSums$Doubles", "push", "(D)V"⟩, prog_3_method_8_code, 3, (Option.none : Option Jvm.ClassFile.FieldType)),
  (⟨"SureSums$Doubles", "pushLost", "()V"⟩, prog_3_method_9_code, 1, (Option.none : Option Jvm.ClassFile.FieldType)),
  (⟨"SureSums$Doubles", "pushEither", "(DZ)V"⟩, prog_3_method_10_code, 4, (Option.none : Option Jvm.ClassFile.FieldType)),
  (⟨"SureSums$Doubles", "call", "(II)V"⟩, prog_3_method_11_code, 3, (Option.none : Option Jvm.ClassFile.FieldType)),
  (⟨"SureSums$Doubles", "isBelow", "(I)Z"⟩, prog_3_method_12_code, 2, (Option.some Jvm.ClassFile.FieldType.boolean)),
  (⟨"SureSums$Doubles", "ofOne", "(I)V"⟩, prog_3_method_13_code, 4, (Option.none : Option Jvm.ClassFile.FieldType)),
  (⟨"SureSums$Doubles", "ofTwo", "(I)V"⟩, prog_3_method_14_code, 6, (Option.none : Option Jvm.ClassFile.FieldType)),
  (⟨"SureSums$Doubles", "losesNumber", "(IDD)Z"⟩, prog_3_method_15_code, 6, (Option.some Jvm.ClassFile.FieldType.boolean)),
  (⟨"SureSums$Doubles", "infinite", "(D)Z"⟩, prog_3_method_16_code, 2, (Option.some Jvm.ClassFile.FieldType.boolean)),
  (⟨"SureSums$Doubles", "greater", "(DD)D"⟩, prog_3_method_17_code, 4, (Option.some Jvm.ClassFile.FieldType.double)),
  (⟨"SureSums$Doubles", "root", "(D)D"⟩, prog_3_method_18_code, 8, (Option.some Jvm.ClassFile.FieldType.double)),
  (⟨"SureSums$Doubles", "wholeRoot", "(J)J"⟩, prog_3_method_19_code, 9, (Option.some Jvm.ClassFile.FieldType.long)),
  (⟨"SureSums$Fractions", "known", "(I)Z"⟩, prog_4_method_2_code, 2, (Option.some Jvm.ClassFile.FieldType.boolean)),
  (⟨"SureSums$Fractions", "upperOf", "(I)J"⟩, prog_4_method_3_code, 2, (Option.some Jvm.ClassFile.FieldType.long)),
  (⟨"SureSums$Fractions", "lowerOf", "(I)J"⟩, prog_4_method_4_code, 2, (Option.some Jvm.ClassFile.FieldType.long)),
  (⟨"SureSums$Fractions", "areSame", "(II)Z"⟩, prog_4_method_5_code, 3, (Option.some Jvm.ClassFile.FieldType.boolean)),
  (⟨"SureSums$Fractions", "reckonAll", "(LSureSums$Program;)V"⟩, prog_4_method_6_code, 3, (Option.none : Option Jvm.ClassFile.FieldType)),
  (⟨"SureSums$Fractions", "run", "(LSureSums$Program;I)Z"⟩, prog_4_method_7_code, 7, (Option.some Jvm.ClassFile.FieldType.boolean)),
  (⟨"SureSums$Fractions", "perform", "(II)Z"⟩, prog_4_method_8_code, 3, (Option.some Jvm.ClassFile.FieldType.boolean)),
  (⟨"SureSums$Fractions", "ofTwo", "(I)Z"⟩, prog_4_method_9_code, 10, (Option.some Jvm.ClassFile.FieldType.boolean)),
  (⟨"SureSums$Fractions", "push", "(JJ)Z"⟩, prog_4_method_10_code, 8, (Option.some Jvm.ClassFile.FieldType.boolean)),
  (⟨"SureSums$Fractions", "commonPart", "(JJ)J"⟩, prog_4_method_11_code, 11, (Option.some Jvm.ClassFile.FieldType.long)),
  (⟨"SureSums$Program", "clear", "()V"⟩, prog_5_method_2_code, 1, (Option.none : Option Jvm.ClassFile.FieldType)),
  (⟨"SureSums$Program", "lineOfLetter", "(I)I"⟩, prog_5_method_3_code, 2, (Option.some Jvm.ClassFile.FieldType.int)),
  (⟨"SureSums$Program", "isFunction", "(I)Z"⟩, prog_5_method_4_code, 2, (Option.some Jvm.ClassFile.FieldType.boolean)),
  (⟨"SureSums$Program", "isLine", "(I)Z"⟩, prog_5_method_5_code, 2, (Option.some Jvm.ClassFile.FieldType.boolean)),
  (⟨"SureSums$Program", "tellLine", "(IZI)V"⟩, prog_5_method_6_code, 4, (Option.none : Option Jvm.ClassFile.FieldType)),
  (⟨"SureSums$Program", "add", "(II)I"⟩, prog_5_method_7_code, 3, (Option.some Jvm.ClassFile.FieldType.int)),
  (⟨"SureSums$Program", "addOver", "(IIII)I"⟩, prog_5_method_8_code, 6, (Option.some Jvm.ClassFile.FieldType.int)),
  (⟨"SureSums$Program", "point", "(II)V"⟩, prog_5_method_9_code, 3, (Option.none : Option Jvm.ClassFile.FieldType)),
  (⟨"SureSums$Program", "argumentAt", "(I)I"⟩, prog_5_method_10_code, 2, (Option.some Jvm.ClassFile.FieldType.int)),
  (⟨"SureSums$Reader", "read", "([IILSureSums$Program;)Z"⟩, prog_6_method_2_code, 5, (Option.some Jvm.ClassFile.FieldType.boolean)),
  (⟨"SureSums$Reader", "advance", "()V"⟩, prog_6_method_3_code, 1, (Option.none : Option Jvm.ClassFile.FieldType)),
  (⟨"SureSums$Reader", "fail", "(I)Z"⟩, prog_6_method_4_code, 2, (Option.some Jvm.ClassFile.FieldType.boolean)),
  (⟨"SureSums$Reader", "line", "()Z"⟩, prog_6_method_5_code, 3, (Option.some Jvm.ClassFile.FieldType.boolean)),
  (⟨"SureSums$Reader", "chain", "(I)Z"⟩, prog_6_method_6_code, 7, (Option.some Jvm.ClassFile.FieldType.boolean)),
  (⟨"SureSums$Reader", "opBetween", "(I)I"⟩, prog_6_method_7_code, 1, (Option.some Jvm.ClassFile.FieldType.int)),
  (⟨"SureSums$Reader", "part", "()Z"⟩, prog_6_method_8_code, 4, (Option.some Jvm.ClassFile.FieldType.boolean)),
  (⟨"SureSums$Reader", "opOver", "(I)I"⟩, prog_6_method_9_code, 1, (Option.some Jvm.ClassFile.FieldType.int)),
  (⟨"SureSums$Reader", "knot", "()Z"⟩, prog_6_method_10_code, 1, (Option.some Jvm.ClassFile.FieldType.boolean)),
  (⟨"SureSums$Reader", "constant", "()Z"⟩, prog_6_method_11_code, 2, (Option.some Jvm.ClassFile.FieldType.boolean)),
  (⟨"SureSums$Reader", "variable", "()Z"⟩, prog_6_method_12_code, 1, (Option.some Jvm.ClassFile.FieldType.boolean)),
  (⟨"SureSums$Reader", "letter", "()Z"⟩, prog_6_method_13_code, 3, (Option.some Jvm.ClassFile.FieldType.boolean)),
  (⟨"SureSums$Reader", "ofOne", "(I)Z"⟩, prog_6_method_14_code, 3, (Option.some Jvm.ClassFile.FieldType.boolean)),
  (⟨"SureSums$Reader", "ofTwo", "(I)Z"⟩, prog_6_method_15_code, 3, (Option.some Jvm.ClassFile.FieldType.boolean)),
  (⟨"SureSums$Reader", "choice", "()Z"⟩, prog_6_method_16_code, 5, (Option.some Jvm.ClassFile.FieldType.boolean)),
  (⟨"SureSums$Reader", "over", "(I)Z"⟩, prog_6_method_17_code, 4, (Option.some Jvm.ClassFile.FieldType.boolean)),
  (⟨"SureSums$Reader", "boundAbove", "(I)Z"⟩, prog_6_method_18_code, 3, (Option.some Jvm.ClassFile.FieldType.boolean)),
  (⟨"SureSums$Reader", "openBracket", "()Z"⟩, prog_6_method_19_code, 1, (Option.some Jvm.ClassFile.FieldType.boolean)),
  (⟨"SureSums$Reader", "closeBracket", "()Z"⟩, prog_6_method_20_code, 1, (Option.some Jvm.ClassFile.FieldType.boolean)),
  (⟨"SureSums$Reader", "expect", "(I)Z"⟩, prog_6_method_21_code, 2, (Option.some Jvm.ClassFile.FieldType.boolean)),
  (⟨"SureSums$Spans", "reckon", "(LSureSums$Program;IJJI)Z"⟩, prog_7_method_2_code, 8, (Option.some Jvm.ClassFile.FieldType.boolean)),
  (⟨"SureSums$Spans", "take", "()Z"⟩, prog_7_method_3_code, 1, (Option.some Jvm.ClassFile.FieldType.boolean)),
  (⟨"SureSums$Spans", "run", "(IJJI)V"⟩, prog_7_method_4_code, 12, (Option.none : Option Jvm.ClassFile.FieldType)),
  (⟨"SureSums$Spans", "perform", "(III)I"⟩, prog_7_method_5_code, 5, (Option.some Jvm.ClassFile.FieldType.int)),
  (⟨"SureSums$Spans", "push", "(JJ)V"⟩, prog_7_method_6_code, 6, (Option.none : Option Jvm.ClassFile.FieldType)),
  (⟨"SureSums$Spans", "call", "(II)V"⟩, prog_7_method_7_code, 3, (Option.none : Option Jvm.ClassFile.FieldType)),
  (⟨"SureSums$Spans", "ofOne", "(I)V"⟩, prog_7_method_8_code, 6, (Option.none : Option Jvm.ClassFile.FieldType)),
  (⟨"SureSums$Spans", "ofTwo", "(I)V"⟩, prog_7_method_9_code, 10, (Option.none : Option Jvm.ClassFile.FieldType)),
  (⟨"SureSums$Spans", "pushProduct", "(JJJJ)V"⟩, prog_7_method_10_code, 21, (Option.none : Option Jvm.ClassFile.FieldType)),
  (⟨"SureSums$Spans", "pushQuotient", "(JJJJ)V"⟩, prog_7_method_11_code, 21, (Option.none : Option Jvm.ClassFile.FieldType)),
  (⟨"SureSums$Spans", "partsDown", "(J)J"⟩, prog_7_method_12_code, 3, (Option.some Jvm.ClassFile.FieldType.long)),
  (⟨"SureSums$Spans", "partsUp", "(J)J"⟩, prog_7_method_13_code, 3, (Option.some Jvm.ClassFile.FieldType.long)),
  (⟨"SureSums$Spans", "quotientDown", "(JJ)J"⟩, prog_7_method_14_code, 4, (Option.some Jvm.ClassFile.FieldType.long)),
  (⟨"SureSums$Spans", "quotientUp", "(JJ)J"⟩, prog_7_method_15_code, 4, (Option.some Jvm.ClassFile.FieldType.long)),
  (⟨"SureSums$Spans", "rootDown", "(J)J"⟩, prog_7_method_16_code, 7, (Option.some Jvm.ClassFile.FieldType.long)),
  (⟨"SureSums$Spans", "rootUp", "(J)J"⟩, prog_7_method_17_code, 4, (Option.some Jvm.ClassFile.FieldType.long)),
  (⟨"SureSums$Spans", "choose", "(III)I"⟩, prog_7_method_18_code, 7, (Option.some Jvm.ClassFile.FieldType.int)),
  (⟨"SureSums$Spans", "passMark", "(II)I"⟩, prog_7_method_19_code, 4, (Option.some Jvm.ClassFile.FieldType.int)),
  (⟨"SureSums$Spans", "joinTwo", "()V"⟩, prog_7_method_20_code, 1, (Option.none : Option Jvm.ClassFile.FieldType)),
  (⟨"SureSums$Spans", "nought", "(III)V"⟩, prog_7_method_21_code, 15, (Option.none : Option Jvm.ClassFile.FieldType)),
  (⟨"SureSums$Spans", "signOver", "(IJI)I"⟩, prog_7_method_22_code, 5, (Option.some Jvm.ClassFile.FieldType.int)),
  (⟨"SureSums$Spans", "overPieces", "(IIII)V"⟩, prog_7_method_23_code, 15, (Option.none : Option Jvm.ClassFile.FieldType)),
  (⟨"SureSums$Spans", "pieceEnd", "(IIII)J"⟩, prog_7_method_24_code, 6, (Option.some Jvm.ClassFile.FieldType.long)),
  (⟨"SureSums$Tokens", "cut", "([II)V"⟩, prog_8_method_2_code, 6, (Option.none : Option Jvm.ClassFile.FieldType)),
  (⟨"SureSums$Tokens", "add", "(III)V"⟩, prog_8_method_3_code, 4, (Option.none : Option Jvm.ClassFile.FieldType)),
  (⟨"SureSums$Tokens", "takeNumber", "([III)I"⟩, prog_8_method_4_code, 6, (Option.some Jvm.ClassFile.FieldType.int)),
  (⟨"SureSums$Tokens", "takeWord", "([III)I"⟩, prog_8_method_5_code, 5, (Option.some Jvm.ClassFile.FieldType.int)),
  (⟨"SureSums$Tokens", "wordKind", "([III)I"⟩, prog_8_method_6_code, 3, (Option.some Jvm.ClassFile.FieldType.int)),
  (⟨"SureSums$Tokens", "byteAt", "([II)I"⟩, prog_8_method_9_code, 2, (Option.some Jvm.ClassFile.FieldType.int)),
  (⟨"SureSums$Tokens", "isDigit", "(I)Z"⟩, prog_8_method_10_code, 1, (Option.some Jvm.ClassFile.FieldType.boolean)),
  (⟨"SureSums$Tokens", "isSmall", "(I)Z"⟩, prog_8_method_11_code, 1, (Option.some Jvm.ClassFile.FieldType.boolean)),
  (⟨"SureSums$Tokens", "isSign", "(I)Z"⟩, prog_8_method_12_code, 1, (Option.some Jvm.ClassFile.FieldType.boolean)),
  (⟨"SureSums", "feed", "(IIIII)I"⟩, prog_1_method_2_code, 6, (Option.some Jvm.ClassFile.FieldType.int)),
  (⟨"SureSums", "tapeNumber", "(I)V"⟩, prog_1_method_3_code, 3, (Option.none : Option Jvm.ClassFile.FieldType)),
  (⟨"SureSums", "text", "(I)I"⟩, prog_1_method_4_code, 4, (Option.some Jvm.ClassFile.FieldType.int)),
  (⟨"SureSums", "fault", "(I)I"⟩, prog_1_method_5_code, 2, (Option.some Jvm.ClassFile.FieldType.int)),
  (⟨"SureSums", "kind", "(I)I"⟩, prog_1_method_6_code, 2, (Option.some Jvm.ClassFile.FieldType.int)),
  (⟨"SureSums", "span", "(III)J"⟩, prog_1_method_7_code, 6, (Option.some Jvm.ClassFile.FieldType.long)),
  (⟨"SureSums", "at", "(IIIII)J"⟩, prog_1_method_8_code, 8, (Option.some Jvm.ClassFile.FieldType.long)),
  (⟨"SureSums", "partOfSpan", "(ZI)J"⟩, prog_1_method_9_code, 3, (Option.some Jvm.ClassFile.FieldType.long)),
  (⟨"SureSums", "ask", "(III)J"⟩, prog_1_method_10_code, 13, (Option.some Jvm.ClassFile.FieldType.long)),
  (⟨"SureSums", "digits", "(I)I"⟩, prog_1_method_11_code, 9, (Option.some Jvm.ClassFile.FieldType.int)),
  (⟨"SureSums", "exact", "(II)J"⟩, prog_1_method_12_code, 4, (Option.some Jvm.ClassFile.FieldType.long)),
  (⟨"SureSums", "compare", "(II)I"⟩, prog_1_method_13_code, 7, (Option.some Jvm.ClassFile.FieldType.int)),
  (⟨"SureSums", "apartBy", "(III)I"⟩, prog_1_method_14_code, 8, (Option.some Jvm.ClassFile.FieldType.int)),
  (⟨"SureSums", "where", "(III)I"⟩, prog_1_method_15_code, 5, (Option.some Jvm.ClassFile.FieldType.int)),
  (⟨"SureSums", "dot", "(III)I"⟩, prog_1_method_16_code, 5, (Option.some Jvm.ClassFile.FieldType.int)),
  (⟨"SureSums", "dots", "(IIIII)I"⟩, prog_1_method_17_code, 10, (Option.some Jvm.ClassFile.FieldType.int)),
  (⟨"SureSums", "machine", "(I)D"⟩, prog_1_method_18_code, 3, (Option.some Jvm.ClassFile.FieldType.double)),
  (⟨"SureSums", "off", "(I)I"⟩, prog_1_method_19_code, 5, (Option.some Jvm.ClassFile.FieldType.int)),
  (⟨"SureSums", "count", "(I)I"⟩, prog_1_method_20_code, 2, (Option.some Jvm.ClassFile.FieldType.int)),
  (⟨"SureSums", "numberLine", "(I)I"⟩, prog_1_method_21_code, 3, (Option.some Jvm.ClassFile.FieldType.int)),
  (⟨"SureSums", "functionLine", "(I)I"⟩, prog_1_method_22_code, 3, (Option.some Jvm.ClassFile.FieldType.int)),
  (⟨"SureSums", "bitsFit", "(I)Z"⟩, prog_1_method_23_code, 1, (Option.some Jvm.ClassFile.FieldType.boolean)),
  (⟨"SureSums", "squareFits", "(I)Z"⟩, prog_1_method_24_code, 1, (Option.some Jvm.ClassFile.FieldType.boolean)),
  (⟨"SureSumsModel", "thrown", "()I"⟩, prog_10_method_2_code, 1, (Option.some Jvm.ClassFile.FieldType.int)),
  (⟨"SureSumsModel", "feed", "(IIIII)I"⟩, prog_10_method_3_code, 8, (Option.some Jvm.ClassFile.FieldType.int)),
  (⟨"SureSumsModel", "isIn", "(III)Z"⟩, prog_10_method_4_code, 3, (Option.some Jvm.ClassFile.FieldType.boolean)),
  (⟨"SureSumsModel", "wrong", "(I)Z"⟩, prog_10_method_5_code, 2, (Option.some Jvm.ClassFile.FieldType.boolean)),
  (⟨"SureSumsModel", "wordAt", "(II)I"⟩, prog_10_method_6_code, 8, (Option.some Jvm.ClassFile.FieldType.int)),
  (⟨"SureSumsModel", "isSmall", "(I)Z"⟩, prog_10_method_7_code, 2, (Option.some Jvm.ClassFile.FieldType.boolean)),
  (⟨"SureSumsModel", "isDigit", "(I)Z"⟩, prog_10_method_8_code, 2, (Option.some Jvm.ClassFile.FieldType.boolean)),
  (⟨"SureSumsModel", "isMark", "(I)Z"⟩, prog_10_method_9_code, 1, (Option.some Jvm.ClassFile.FieldType.boolean)),
  (⟨"SureSumsModel", "take", "()V"⟩, prog_10_method_10_code, 2, (Option.none : Option Jvm.ClassFile.FieldType)),
  (⟨"SureSumsModel", "isSign", "(I)Z"⟩, prog_10_method_11_code, 2, (Option.some Jvm.ClassFile.FieldType.boolean)),
  (⟨"SureSumsModel", "comes", "(I)Z"⟩, prog_10_method_12_code, 2, (Option.some Jvm.ClassFile.FieldType.boolean)),
  (⟨"SureSumsModel", "grown", "(II)I"⟩, prog_10_method_13_code, 4, (Option.some Jvm.ClassFile.FieldType.int)),
  (⟨"SureSumsModel", "weight", "(I)I"⟩, prog_10_method_14_code, 1, (Option.some Jvm.ClassFile.FieldType.int)),
  (⟨"SureSumsModel", "drop", "()I"⟩, prog_10_method_15_code, 1, (Option.some Jvm.ClassFile.FieldType.int)),
  (⟨"SureSumsModel", "hold", "(I)V"⟩, prog_10_method_16_code, 2, (Option.none : Option Jvm.ClassFile.FieldType)),
  (⟨"SureSumsModel", "bind", "(I)V"⟩, prog_10_method_17_code, 3, (Option.none : Option Jvm.ClassFile.FieldType)),
  (⟨"SureSumsModel", "waitFor", "(II)V"⟩, prog_10_method_18_code, 3, (Option.none : Option Jvm.ClassFile.FieldType)),
  (⟨"SureSumsModel", "opens", "(I)Z"⟩, prog_10_method_19_code, 2, (Option.some Jvm.ClassFile.FieldType.boolean)),
  (⟨"SureSumsModel", "end", "(IZ)Z"⟩, prog_10_method_20_code, 5, (Option.some Jvm.ClassFile.FieldType.boolean)),
  (⟨"SureSumsModel", "over", "(I)Z"⟩, prog_10_method_21_code, 2, (Option.some Jvm.ClassFile.FieldType.boolean)),
  (⟨"SureSumsModel", "letterRead", "()Z"⟩, prog_10_method_22_code, 4, (Option.some Jvm.ClassFile.FieldType.boolean)),
  (⟨"SureSumsModel", "wordRead", "()Z"⟩, prog_10_method_23_code, 3, (Option.some Jvm.ClassFile.FieldType.boolean)),
  (⟨"SureSumsModel", "valueRead", "()Z"⟩, prog_10_method_24_code, 2, (Option.some Jvm.ClassFile.FieldType.boolean)),
  (⟨"SureSumsModel", "signNow", "()I"⟩, prog_10_method_25_code, 1, (Option.some Jvm.ClassFile.FieldType.int)),
  (⟨"SureSumsModel", "signRead", "(I)Z"⟩, prog_10_method_26_code, 3, (Option.some Jvm.ClassFile.FieldType.boolean)),
  (⟨"SureSumsModel", "parts", "()Z"⟩, prog_10_method_27_code, 10, (Option.some Jvm.ClassFile.FieldType.boolean)),
  (⟨"SureSumsModel", "expression", "()Z"⟩, prog_10_method_28_code, 2, (Option.some Jvm.ClassFile.FieldType.boolean)),
  (⟨"SureSumsModel", "line", "()Z"⟩, prog_10_method_29_code, 2, (Option.some Jvm.ClassFile.FieldType.boolean)),
  (⟨"SureSumsModel", "keep", "()V"⟩, prog_10_method_30_code, 3, (Option.none : Option Jvm.ClassFile.FieldType)),
  (⟨"SureSumsModel", "text", "(I)I"⟩, prog_10_method_31_code, 3, (Option.some Jvm.ClassFile.FieldType.int)),
  (⟨"SureSumsModel", "fault", "(I)I"⟩, prog_10_method_32_code, 2, (Option.some Jvm.ClassFile.FieldType.int)),
  (⟨"SureSumsModel", "isLetter", "(I)Z"⟩, prog_10_method_33_code, 1, (Option.some Jvm.ClassFile.FieldType.boolean)),
  (⟨"SureSumsModel", "kind", "(I)I"⟩, prog_10_method_34_code, 2, (Option.some Jvm.ClassFile.FieldType.int)),
  (⟨"SureSumsModel", "isNumber", "(I)Z"⟩, prog_10_method_35_code, 2, (Option.some Jvm.ClassFile.FieldType.boolean)),
  (⟨"SureSumsModel", "isFun", "(I)Z"⟩, prog_10_method_36_code, 2, (Option.some Jvm.ClassFile.FieldType.boolean)),
  (⟨"SureSumsModel", "child", "(IJJ)V"⟩, prog_10_method_37_code, 6, (Option.none : Option Jvm.ClassFile.FieldType)),
  (⟨"SureSumsModel", "gives", "(ZJJ)V"⟩, prog_10_method_38_code, 8, (Option.none : Option Jvm.ClassFile.FieldType)),
  (⟨"SureSumsModel", "none", "()V"⟩, prog_10_method_39_code, 1, (Option.none : Option Jvm.ClassFile.FieldType)),
  (⟨"SureSumsModel", "askKnot", "(IJJ)V"⟩, prog_10_method_40_code, 6, (Option.none : Option Jvm.ClassFile.FieldType)),
  (⟨"SureSumsModel", "up", "(J)J"⟩, prog_10_method_41_code, 3, (Option.some Jvm.ClassFile.FieldType.long)),
  (⟨"SureSumsModel", "down", "(JJ)J"⟩, prog_10_method_42_code, 6, (Option.some Jvm.ClassFile.FieldType.long)),
  (⟨"SureSumsModel", "upper", "(JJ)J"⟩, prog_10_method_43_code, 6, (Option.some Jvm.ClassFile.FieldType.long)),
  (⟨"SureSumsModel", "lesser", "(JJ)J"⟩, prog_10_method_44_code, 4, (Option.some Jvm.ClassFile.FieldType.long)),
  (⟨"SureSumsModel", "greater", "(JJ)J"⟩, prog_10_method_45_code, 4, (Option.some Jvm.ClassFile.FieldType.long)),
  (⟨"SureSumsModel", "root", "(J)J"⟩, prog_10_method_46_code, 6, (Option.some Jvm.ClassFile.FieldType.long)),
  (⟨"SureSumsModel", "keepOne", "(I)V"⟩, prog_10_method_47_code, 2, (Option.none : Option Jvm.ClassFile.FieldType)),
  (⟨"SureSumsModel", "goesOn", "(I)V"⟩, prog_10_method_48_code, 7, (Option.none : Option Jvm.ClassFile.FieldType)),
  (⟨"SureSumsModel", "alone", "(I)V"⟩, prog_10_method_49_code, 8, (Option.none : Option Jvm.ClassFile.FieldType)),
  (⟨"SureSumsModel", "together", "(II)V"⟩, prog_10_method_50_code, 11, (Option.none : Option Jvm.ClassFile.FieldType)),
  (⟨"SureSumsModel", "divides", "(JJ)V"⟩, prog_10_method_51_code, 9, (Option.none : Option Jvm.ClassFile.FieldType)),
  (⟨"SureSumsModel", "chooses", "(III)V"⟩, prog_10_method_52_code, 15, (Option.none : Option Jvm.ClassFile.FieldType)),
  (⟨"SureSumsModel", "calls", "(III)V"⟩, prog_10_method_53_code, 4, (Option.none : Option Jvm.ClassFile.FieldType)),
  (⟨"SureSumsModel", "nought", "(III)V"⟩, prog_10_method_54_code, 12, (Option.none : Option Jvm.ClassFile.FieldType)),
  (⟨"SureSumsModel", "piece", "(III)J"⟩, prog_10_method_55_code, 4, (Option.some Jvm.ClassFile.FieldType.long)),
  (⟨"SureSumsModel", "spans", "(III)V"⟩, prog_10_method_56_code, 7, (Option.none : Option Jvm.ClassFile.FieldType)),
  (⟨"SureSumsModel", "askNumber", "(II)V"⟩, prog_10_method_57_code, 3, (Option.none : Option Jvm.ClassFile.FieldType)),
  (⟨"SureSumsModel", "told", "(I)J"⟩, prog_10_method_58_code, 2, (Option.some Jvm.ClassFile.FieldType.long)),
  (⟨"SureSumsModel", "span", "(III)J"⟩, prog_10_method_59_code, 4, (Option.some Jvm.ClassFile.FieldType.long)),
  (⟨"SureSumsModel", "at", "(IIIII)J"⟩, prog_10_method_60_code, 6, (Option.some Jvm.ClassFile.FieldType.long)),
  (⟨"SureSumsModel", "ask", "(III)J"⟩, prog_10_method_61_code, 9, (Option.some Jvm.ClassFile.FieldType.long)),
  (⟨"SureSumsModel", "digits", "(I)I"⟩, prog_10_method_62_code, 6, (Option.some Jvm.ClassFile.FieldType.int)),
  (⟨"SureSumsModel", "size", "(J)J"⟩, prog_10_method_63_code, 2, (Option.some Jvm.ClassFile.FieldType.long)),
  (⟨"SureSumsModel", "shared", "(JJ)J"⟩, prog_10_method_64_code, 10, (Option.some Jvm.ClassFile.FieldType.long)),
  (⟨"SureSumsModel", "trailOf", "(I)I"⟩, prog_10_method_65_code, 5, (Option.some Jvm.ClassFile.FieldType.int)),
  (⟨"SureSumsModel", "exactly", "(I)Z"⟩, prog_10_method_66_code, 15, (Option.some Jvm.ClassFile.FieldType.boolean)),
  (⟨"SureSumsModel", "makeExact", "()V"⟩, prog_10_method_67_code, 6, (Option.none : Option Jvm.ClassFile.FieldType)),
  (⟨"SureSumsModel", "exact", "(II)J"⟩, prog_10_method_68_code, 3, (Option.some Jvm.ClassFile.FieldType.long)),
  (⟨"SureSumsModel", "compare", "(II)I"⟩, prog_10_method_69_code, 10, (Option.some Jvm.ClassFile.FieldType.int)),
  (⟨"SureSumsModel", "where", "(III)I"⟩, prog_10_method_70_code, 8, (Option.some Jvm.ClassFile.FieldType.int)),
  (⟨"SureSumsModel", "pieceOf", "(IIII)V"⟩, prog_10_method_71_code, 9, (Option.none : Option Jvm.ClassFile.FieldType)),
  (⟨"SureSumsModel", "dotOf", "(III)I"⟩, prog_10_method_72_code, 11, (Option.some Jvm.ClassFile.FieldType.int)),
  (⟨"SureSumsModel", "dot", "(III)I"⟩, prog_10_method_73_code, 4, (Option.some Jvm.ClassFile.FieldType.int)),
  (⟨"SureSumsModel", "dots", "(IIIII)I"⟩, prog_10_method_74_code, 9, (Option.some Jvm.ClassFile.FieldType.int)),
  (⟨"SureSumsModel", "below", "(IDZ)V"⟩, prog_10_method_75_code, 5, (Option.none : Option Jvm.ClassFile.FieldType)),
  (⟨"SureSumsModel", "part", "(II)V"⟩, prog_10_method_76_code, 3, (Option.none : Option Jvm.ClassFile.FieldType)),
  (⟨"SureSumsModel", "yields", "(DZ)V"⟩, prog_10_method_77_code, 4, (Option.none : Option Jvm.ClassFile.FieldType)),
  (⟨"SureSumsModel", "makeMachine", "()V"⟩, prog_10_method_78_code, 2, (Option.none : Option Jvm.ClassFile.FieldType)),
  (⟨"SureSumsModel", "reckons", "(I)V"⟩, prog_10_method_79_code, 6, (Option.none : Option Jvm.ClassFile.FieldType)),
  (⟨"SureSumsModel", "isEndless", "(D)Z"⟩, prog_10_method_80_code, 2, (Option.some Jvm.ClassFile.FieldType.boolean)),
  (⟨"SureSumsModel", "isNone", "(IDD)Z"⟩, prog_10_method_81_code, 6, (Option.some Jvm.ClassFile.FieldType.boolean)),
  (⟨"SureSumsModel", "ofTwo", "(IDD)D"⟩, prog_10_method_82_code, 5, (Option.some Jvm.ClassFile.FieldType.double)),
  (⟨"SureSumsModel", "rootOfDouble", "(D)D"⟩, prog_10_method_83_code, 17, (Option.some Jvm.ClassFile.FieldType.double)),
  (⟨"SureSumsModel", "fails", "(I)D"⟩, prog_10_method_84_code, 2, (Option.some Jvm.ClassFile.FieldType.double)),
  (⟨"SureSumsModel", "machine", "(I)D"⟩, prog_10_method_85_code, 2, (Option.some Jvm.ClassFile.FieldType.double)),
  (⟨"SureSumsModel", "off", "(I)I"⟩, prog_10_method_86_code, 4, (Option.some Jvm.ClassFile.FieldType.int)),
  (⟨"SureSumsModel", "count", "(I)I"⟩, prog_10_method_87_code, 2, (Option.some Jvm.ClassFile.FieldType.int)),
  (⟨"java/lang/Math", "max", "(II)I"⟩, prog_16_method_65_code, 2, (Option.some Jvm.ClassFile.FieldType.int)),
  (⟨"java/lang/Math", "min", "(II)I"⟩, prog_16_method_69_code, 2, (Option.some Jvm.ClassFile.FieldType.int)),
  (⟨"java/lang/Math", "max", "(JJ)J"⟩, prog_16_method_66_code, 4, (Option.some Jvm.ClassFile.FieldType.long)),
  (⟨"java/lang/Math", "min", "(JJ)J"⟩, prog_16_method_70_code, 4, (Option.some Jvm.ClassFile.FieldType.long)),
  (⟨"java/lang/Math", "abs", "(J)J"⟩, prog_16_method_61_code, 2, (Option.some Jvm.ClassFile.FieldType.long)),
  (⟨"java/lang/Math", "floorDiv", "(JJ)J"⟩, prog_16_method_49_code, 6, (Option.some Jvm.ClassFile.FieldType.long)),
  (⟨"java/util/Arrays", "fill", "([II)V"⟩, prog_24_method_103_code, 4, (Option.none : Option Jvm.ClassFile.FieldType)),
  (⟨"java/util/Arrays", "fill", "([JJ)V"⟩, prog_24_method_101_code, 5, (Option.none : Option Jvm.ClassFile.FieldType))]
def am_Nm (j : Nat) : Option am_N := am_Nl[j]?
