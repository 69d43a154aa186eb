/-! THE CLASSES of this claim, by program out of the Statement: names, fields, kinds, and the words of the tables by their places -/
noncomputable def im_Ts : List Cond := lw_tbl.filter goodWord
theorem im_in {w : Cond} (i : Nat) (h : lw_tbl[i]? = some w) (hg : goodWord w = true) : w ∈ im_Ts := List.mem_filter.mpr ⟨List.mem_of_getElem? h, hg⟩
def mx_R0 : String := "LogicMachine"
def mx_R1 : String := "LogicMachine$Arithmetic"
def mx_R2 : String := "LogicMachine$Choice"
def mx_R3 : String := "LogicMachine$Clause"
def mx_R4 : String := "LogicMachine$Frame"
def mx_R5 : String := "LogicMachine$Program"
def mx_R6 : String := "LogicMachine$Reader"
def mx_R7 : String := "LogicMachine$Search"
def mx_R8 : String := "LogicMachine$Store"
def mx_R9 : String := "LogicMachine$Text"
def mx_R10 : String := "LogicMachine$Unifier"
def mx_R11 : String := "LogicMachine$Writer"
def mx_R12 : String := "LogicMachineModel"
def mx_R13 : String := "java/util/Arrays"
def mx_R14 : String := "LogicMachineLaw"
def mx_T0 : u_T := fun k => match k with
  | 0 => (mx_R0, "text", "LLogicMachine$Text;", true)
  | 1 => (mx_R0, "reader", "LLogicMachine$Reader;", true)
  | 2 => (mx_R0, "program", "LLogicMachine$Program;", true)
  | 3 => (mx_R0, "past", "[LLogicMachine$Program;", true)
  | 4 => (mx_R0, "changes", "I", false)
  | 5 => (mx_R0, "search", "LLogicMachine$Search;", true)
  | _ => (mx_R0, "writer", "LLogicMachine$Writer;", true)
def mx_y0 : Nat → FieldType := fun k => match k with
  | 0 => .object "LogicMachine$Text"
  | 1 => .object "LogicMachine$Reader"
  | 2 => .object "LogicMachine$Program"
  | 3 => .array (.object "LogicMachine$Program")
  | 4 => .int
  | 5 => .object "LogicMachine$Search"
  | _ => .object "LogicMachine$Writer"
def mx_T1 : u_T := fun k => match k with
  | 0 => (mx_R1, "store", "LLogicMachine$Store;", true)
  | 1 => (mx_R1, "tasks", "[I", false)
  | 2 => (mx_R1, "taskCount", "I", false)
  | 3 => (mx_R1, "values", "[I", false)
  | 4 => (mx_R1, "valueCount", "I", false)
  | 5 => (mx_R1, "kept", "[I", false)
  | 6 => (mx_R1, "keptIn", "[I", false)
  | 7 => (mx_R1, "evaluation", "I", false)
  | _ => (mx_R1, "result", "I", false)
def mx_y1 : Nat → FieldType := fun k => match k with
  | 0 => .object "LogicMachine$Store"
  | 1 => .array .int
  | 2 => .int
  | 3 => .array .int
  | 4 => .int
  | 5 => .array .int
  | 6 => .array .int
  | 7 => .int
  | _ => .int
def mx_T2 : u_T := fun k => match k with
  | 0 => (mx_R2, "top", "LLogicMachine$Frame;", false)
  | 1 => (mx_R2, "goal", "I", false)
  | 2 => (mx_R2, "left", "I", false)
  | 3 => (mx_R2, "instances", "I", false)
  | 4 => (mx_R2, "trailed", "I", false)
  | _ => (mx_R2, "framesUsed", "I", false)
def mx_y2 : Nat → FieldType := fun k => match k with
  | 0 => .object "LogicMachine$Frame"
  | 1 => .int
  | 2 => .int
  | 3 => .int
  | 4 => .int
  | _ => .int
def mx_T3 : u_T := fun k => match k with
  | 0 => (mx_R3, "kinds", "[I", true)
  | 1 => (mx_R3, "keys", "[J", true)
  | 2 => (mx_R3, "arguments", "[I", true)
  | 3 => (mx_R3, "head", "I", true)
  | 4 => (mx_R3, "goals", "[I", true)
  | 5 => (mx_R3, "variables", "I", true)
  | 6 => (mx_R3, "singles", "I", true)
  | 7 => (mx_R3, "calls", "[J", true)
  | _ => (mx_R3, "needs", "[I", true)
def mx_y3 : Nat → FieldType := fun k => match k with
  | 0 => .array .int
  | 1 => .array .long
  | 2 => .array .int
  | 3 => .int
  | 4 => .array .int
  | 5 => .int
  | 6 => .int
  | 7 => .array .long
  | _ => .array .int
def mx_T4 : u_T := fun k => match k with
  | 0 => (mx_R4, "instance", "I", false)
  | 1 => (mx_R4, "next", "I", false)
  | 2 => (mx_R4, "under", "LLogicMachine$Frame;", false)
  | 3 => (mx_R4, "keep", "I", false)
  | _ => (mx_R4, "depth", "I", false)
def mx_y4 : Nat → FieldType := fun k => match k with
  | 0 => .int
  | 1 => .int
  | 2 => .object "LogicMachine$Frame"
  | 3 => .int
  | _ => .int
def mx_T5 : u_T := fun k => match k with
  | 0 => (mx_R5, "nothing", "LLogicMachine$Clause;", true)
  | 1 => (mx_R5, "clauses", "[LLogicMachine$Clause;", true)
  | _ => (mx_R5, "size", "I", false)
def mx_y5 : Nat → FieldType := fun k => match k with
  | 0 => .object "LogicMachine$Clause"
  | 1 => .array (.object "LogicMachine$Clause")
  | _ => .int
def mx_T6 : u_T := fun k => match k with
  | 0 => (mx_R6, "text", "LLogicMachine$Text;", true)
  | 1 => (mx_R6, "kinds", "[I", true)
  | 2 => (mx_R6, "keys", "[J", true)
  | 3 => (mx_R6, "arguments", "[I", true)
  | 4 => (mx_R6, "used", "I", false)
  | 5 => (mx_R6, "head", "I", false)
  | 6 => (mx_R6, "goals", "[I", true)
  | 7 => (mx_R6, "goalCount", "I", false)
  | 8 => (mx_R6, "names", "[J", true)
  | 9 => (mx_R6, "uses", "[I", true)
  | 10 => (mx_R6, "variables", "I", false)
  | 11 => (mx_R6, "masks", "[I", true)
  | 12 => (mx_R6, "open", "[I", true)
  | 13 => (mx_R6, "modes", "[I", true)
  | 14 => (mx_R6, "depth", "I", false)
  | 15 => (mx_R6, "asQuery", "Z", false)
  | 16 => (mx_R6, "due", "I", false)
  | _ => (mx_R6, "named", "I", false)
def mx_y6 : Nat → FieldType := fun k => match k with
  | 0 => .object "LogicMachine$Text"
  | 1 => .array .int
  | 2 => .array .long
  | 3 => .array .int
  | 4 => .int
  | 5 => .int
  | 6 => .array .int
  | 7 => .int
  | 8 => .array .long
  | 9 => .array .int
  | 10 => .int
  | 11 => .array .int
  | 12 => .array .int
  | 13 => .array .int
  | 14 => .int
  | 15 => .boolean
  | 16 => .int
  | _ => .int
def mx_T7 : u_T := fun k => match k with
  | 0 => (mx_R7, "program", "LLogicMachine$Program;", true)
  | 1 => (mx_R7, "store", "LLogicMachine$Store;", true)
  | 2 => (mx_R7, "unifier", "LLogicMachine$Unifier;", true)
  | 3 => (mx_R7, "arithmetic", "LLogicMachine$Arithmetic;", true)
  | 4 => (mx_R7, "frames", "[LLogicMachine$Frame;", true)
  | 5 => (mx_R7, "framesUsed", "I", false)
  | 6 => (mx_R7, "top", "LLogicMachine$Frame;", false)
  | 7 => (mx_R7, "choices", "[LLogicMachine$Choice;", true)
  | 8 => (mx_R7, "choiceCount", "I", false)
  | 9 => (mx_R7, "cutTo", "I", false)
  | 10 => (mx_R7, "status", "I", false)
  | 11 => (mx_R7, "error", "I", false)
  | 12 => (mx_R7, "inferences", "I", false)
  | 13 => (mx_R7, "solutions", "I", false)
  | 14 => (mx_R7, "tries", "I", false)
  | 15 => (mx_R7, "mostFrames", "I", false)
  | 16 => (mx_R7, "mostChoices", "I", false)
  | 17 => (mx_R7, "tried", "[I", true)
  | _ => (mx_R7, "matched", "[I", true)
def mx_y7 : Nat → FieldType := fun k => match k with
  | 0 => .object "LogicMachine$Program"
  | 1 => .object "LogicMachine$Store"
  | 2 => .object "LogicMachine$Unifier"
  | 3 => .object "LogicMachine$Arithmetic"
  | 4 => .array (.object "LogicMachine$Frame")
  | 5 => .int
  | 6 => .object "LogicMachine$Frame"
  | 7 => .array (.object "LogicMachine$Choice")
  | 8 => .int
  | 9 => .int
  | 10 => .int
  | 11 => .int
  | 12 => .int
  | 13 => .int
  | 14 => .int
  | 15 => .int
  | 16 => .int
  | 17 => .array .int
  | _ => .array .int
def mx_T8 : u_T := fun k => match k with
  | 0 => (mx_R8, "nothing", "LLogicMachine$Clause;", true)
  | 1 => (mx_R8, "clauses", "[LLogicMachine$Clause;", false)
  | 2 => (mx_R8, "numbers", "[I", false)
  | 3 => (mx_R8, "used", "I", false)
  | 4 => (mx_R8, "bound", "[I", false)
  | 5 => (mx_R8, "trail", "[I", false)
  | 6 => (mx_R8, "trailed", "I", false)
  | 7 => (mx_R8, "older", "I", false)
  | _ => (mx_R8, "computed", "[I", true)
def mx_y8 : Nat → FieldType := fun k => match k with
  | 0 => .object "LogicMachine$Clause"
  | 1 => .array (.object "LogicMachine$Clause")
  | 2 => .array .int
  | 3 => .int
  | 4 => .array .int
  | 5 => .array .int
  | 6 => .int
  | 7 => .int
  | _ => .array .int
def mx_T9 : u_T := fun k => match k with
  | 0 => (mx_R9, "signs", "[C", true)
  | 1 => (mx_R9, "length", "I", false)
  | 2 => (mx_R9, "part", "I", false)
  | 3 => (mx_R9, "start", "I", false)
  | 4 => (mx_R9, "content", "J", false)
  | _ => (mx_R9, "next", "I", false)
def mx_y9 : Nat → FieldType := fun k => match k with
  | 0 => .array .char
  | 1 => .int
  | 2 => .int
  | 3 => .int
  | 4 => .long
  | _ => .int
def mx_T10 : u_T := fun k => match k with
  | 0 => (mx_R10, "store", "LLogicMachine$Store;", true)
  | 1 => (mx_R10, "joined", "[I", false)
  | 2 => (mx_R10, "queue", "[I", false)
  | 3 => (mx_R10, "queued", "I", false)
  | 4 => (mx_R10, "suspects", "[I", false)
  | 5 => (mx_R10, "suspectCount", "I", false)
  | 6 => (mx_R10, "pending", "[I", false)
  | 7 => (mx_R10, "pendingCount", "I", false)
  | 8 => (mx_R10, "marks", "[I", false)
  | 9 => (mx_R10, "inside", "I", false)
  | _ => (mx_R10, "left", "I", false)
def mx_y10 : Nat → FieldType := fun k => match k with
  | 0 => .object "LogicMachine$Store"
  | 1 => .array .int
  | 2 => .array .int
  | 3 => .int
  | 4 => .array .int
  | 5 => .int
  | 6 => .array .int
  | 7 => .int
  | 8 => .array .int
  | 9 => .int
  | _ => .int
def mx_T11 : u_T := fun k => match k with
  | 0 => (mx_R11, "store", "LLogicMachine$Store;", true)
  | 1 => (mx_R11, "signs", "[C", true)
  | 2 => (mx_R11, "length", "I", false)
  | 3 => (mx_R11, "variables", "[I", true)
  | 4 => (mx_R11, "variableCount", "I", false)
  | 5 => (mx_R11, "open", "[I", true)
  | 6 => (mx_R11, "written", "[I", true)
  | _ => (mx_R11, "depth", "I", false)
def mx_y11 : Nat → FieldType := fun k => match k with
  | 0 => .object "LogicMachine$Store"
  | 1 => .array .char
  | 2 => .int
  | 3 => .array .int
  | 4 => .int
  | 5 => .array .int
  | 6 => .array .int
  | _ => .int
def mx_T12 : u_T := fun k => match k with
  | 0 => (mx_R12, "typed", "[I", true)
  | 1 => (mx_R12, "typedMany", "I", false)
  | 2 => (mx_R12, "kind", "[I", true)
  | 3 => (mx_R12, "word", "[J", true)
  | 4 => (mx_R12, "arity", "[I", true)
  | 5 => (mx_R12, "part", "[I", true)
  | 6 => (mx_R12, "nodes", "[I", true)
  | 7 => (mx_R12, "head", "[I", true)
  | 8 => (mx_R12, "goalMany", "[I", true)
  | 9 => (mx_R12, "goalAt", "[I", true)
  | 10 => (mx_R12, "variableMany", "[I", true)
  | 11 => (mx_R12, "program", "[I", true)
  | 12 => (mx_R12, "past", "[I", true)
  | 13 => (mx_R12, "pastMany", "I", false)
  | 14 => (mx_R12, "at", "I", false)
  | 15 => (mx_R12, "sign", "I", false)
  | 16 => (mx_R12, "start", "I", false)
  | 17 => (mx_R12, "found", "J", false)
  | 18 => (mx_R12, "wrong", "I", false)
  | 19 => (mx_R12, "slot", "I", false)
  | 20 => (mx_R12, "seen", "[J", true)
  | 21 => (mx_R12, "seenMany", "I", false)
  | 22 => (mx_R12, "building", "[I", true)
  | 23 => (mx_R12, "begun", "[I", true)
  | 24 => (mx_R12, "lastCell", "[I", true)
  | 25 => (mx_R12, "depth", "I", false)
  | 26 => (mx_R12, "fresh", "[I", true)
  | 27 => (mx_R12, "freshMany", "I", false)
  | 28 => (mx_R12, "missing", "[I", true)
  | 29 => (mx_R12, "missingMany", "I", false)
  | 30 => (mx_R12, "walk", "[I", true)
  | 31 => (mx_R12, "steps", "[I", true)
  | 32 => (mx_R12, "state", "I", false)
  | 33 => (mx_R12, "error", "I", false)
  | 34 => (mx_R12, "inferences", "I", false)
  | 35 => (mx_R12, "solutions", "I", false)
  | 36 => (mx_R12, "tries", "I", false)
  | 37 => (mx_R12, "mostFrames", "I", false)
  | 38 => (mx_R12, "mostChoices", "I", false)
  | 39 => (mx_R12, "tried", "[I", true)
  | 40 => (mx_R12, "unified", "[I", true)
  | 41 => (mx_R12, "binding", "[J", true)
  | 42 => (mx_R12, "places", "I", false)
  | 43 => (mx_R12, "trail", "[I", true)
  | 44 => (mx_R12, "trailed", "I", false)
  | 45 => (mx_R12, "frameSlot", "[I", true)
  | 46 => (mx_R12, "frameGone", "[I", true)
  | 47 => (mx_R12, "framePlace", "[I", true)
  | 48 => (mx_R12, "frameBelow", "[I", true)
  | 49 => (mx_R12, "frameCut", "[I", true)
  | 50 => (mx_R12, "frameGoal", "[J", true)
  | 51 => (mx_R12, "cells", "I", false)
  | 52 => (mx_R12, "top", "I", false)
  | 53 => (mx_R12, "choiceGoal", "[J", true)
  | 54 => (mx_R12, "choiceLeft", "[I", true)
  | 55 => (mx_R12, "choiceTop", "[I", true)
  | 56 => (mx_R12, "choiceTrail", "[I", true)
  | 57 => (mx_R12, "choicePlaces", "[I", true)
  | 58 => (mx_R12, "choiceCells", "[I", true)
  | 59 => (mx_R12, "choices", "I", false)
  | 60 => (mx_R12, "pending", "[J", true)
  | 61 => (mx_R12, "waiting", "[J", true)
  | 62 => (mx_R12, "looked", "[I", true)
  | 63 => (mx_R12, "valueThere", "[I", true)
  | 64 => (mx_R12, "round", "I", false)
  | 65 => (mx_R12, "pairs", "[J", true)
  | 66 => (mx_R12, "pairRound", "J", false)
  | 67 => (mx_R12, "results", "[I", true)
  | 68 => (mx_R12, "evaluated", "I", false)
  | 69 => (mx_R12, "out", "[I", true)
  | 70 => (mx_R12, "outMany", "I", false)
  | 71 => (mx_R12, "named", "[J", true)
  | 72 => (mx_R12, "namedMany", "I", false)
  | _ => (mx_R12, "putMany", "I", false)
def mx_y12 : Nat → FieldType := fun k => match k with
  | 0 => .array .int
  | 1 => .int
  | 2 => .array .int
  | 3 => .array .long
  | 4 => .array .int
  | 5 => .array .int
  | 6 => .array .int
  | 7 => .array .int
  | 8 => .array .int
  | 9 => .array .int
  | 10 => .array .int
  | 11 => .array .int
  | 12 => .array .int
  | 13 => .int
  | 14 => .int
  | 15 => .int
  | 16 => .int
  | 17 => .long
  | 18 => .int
  | 19 => .int
  | 20 => .array .long
  | 21 => .int
  | 22 => .array .int
  | 23 => .array .int
  | 24 => .array .int
  | 25 => .int
  | 26 => .array .int
  | 27 => .int
  | 28 => .array .int
  | 29 => .int
  | 30 => .array .int
  | 31 => .array .int
  | 32 => .int
  | 33 => .int
  | 34 => .int
  | 35 => .int
  | 36 => .int
  | 37 => .int
  | 38 => .int
  | 39 => .array .int
  | 40 => .array .int
  | 41 => .array .long
  | 42 => .int
  | 43 => .array .int
  | 44 => .int
  | 45 => .array .int
  | 46 => .array .int
  | 47 => .array .int
  | 48 => .array .int
  | 49 => .array .int
  | 50 => .array .long
  | 51 => .int
  | 52 => .int
  | 53 => .array .long
  | 54 => .array .int
  | 55 => .array .int
  | 56 => .array .int
  | 57 => .array .int
  | 58 => .array .int
  | 59 => .int
  | 60 => .array .long
  | 61 => .array .long
  | 62 => .array .int
  | 63 => .array .int
  | 64 => .int
  | 65 => .array .long
  | 66 => .long
  | 67 => .array .int
  | 68 => .int
  | 69 => .array .int
  | 70 => .int
  | 71 => .array .long
  | 72 => .int
  | _ => .int
def mx_cl : List vw_C := [(mx_R0, mx_T0, 7), (mx_R1, mx_T1, 9), (mx_R2, mx_T2, 6), (mx_R3, mx_T3, 9), (mx_R4, mx_T4, 5), (mx_R5, mx_T5, 3), (mx_R6, mx_T6, 18), (mx_R7, mx_T7, 19), (mx_R8, mx_T8, 9), (mx_R9, mx_T9, 6), (mx_R10, mx_T10, 11), (mx_R11, mx_T11, 8), (mx_R12, mx_T12, 74)]
def mx_rA : List Nat := [3, 5, 4, 2]
def mx_kl : List (List Nat) := [[3, 3, 3, 3, 0, 3, 3], [3, 3, 0, 3, 0, 3, 3, 0, 0], [3, 0, 0, 0, 0, 0], [3, 3, 3, 0, 3, 0, 0, 3, 3], [0, 0, 3, 0, 0], [3, 3, 0], [3, 3, 3, 3, 0, 0, 3, 0, 3, 3, 0, 3, 3, 3, 0, 2, 0, 0], [3, 3, 3, 3, 3, 0, 3, 3, 0, 0, 0, 0, 0, 0, 0, 0, 0, 3, 3], [3, 3, 3, 0, 3, 3, 0, 0, 3], [3, 0, 0, 0, 1, 0], [3, 3, 3, 0, 3, 0, 3, 0, 3, 0, 0], [3, 3, 0, 3, 0, 3, 3, 0], [3, 0, 3, 3, 3, 3, 3, 3, 3, 3, 3, 3, 3, 0, 0, 0, 0, 1, 0, 0, 3, 0, 3, 3, 3, 0, 3, 0, 3, 0, 3, 3, 0, 0, 0, 0, 0, 0, 0, 3, 3, 3, 0, 3, 0, 3, 3, 3, 3, 3, 3, 0, 0, 3, 3, 3, 3, 3, 3, 0, 3, 3, 3, 3, 0, 3, 1, 3, 0, 3, 0, 3, 0, 0]]
def mx_kd (c k : Nat) : Nat := match mx_kl[c]? with
  | some l => match l[k]? with
    | some x => x
    | none => 0
  | none => 0
def mx_nf (c : Nat) : Nat := match mx_kl[c]? with
  | some l => l.length
  | none => 0
def mx_nw : List Cond := [.methodLinkNest mx_R0 11 ⟨mx_R9, "<init>", "()V"⟩ mx_R0, .methodLinkNest mx_R3 98 ⟨mx_R0, "builtinOf", "(J)I"⟩ mx_R0, .methodLinkNest mx_R3 101 ⟨mx_R0, "isCallable", "(IJ)Z"⟩ mx_R0, .methodLinkNest mx_R6 118 ⟨mx_R0, "builtinOf", "(J)I"⟩ mx_R0, .methodLinkNest mx_R6 154 ⟨mx_R0, "arityOf", "(J)I"⟩ mx_R0, .methodLinkNest mx_R5 41 ⟨mx_R0, "lowestOf", "(I)I"⟩ mx_R0, .methodLinkNest mx_R3 87 ⟨mx_R0, "arityOf", "(J)I"⟩ mx_R0, .methodLinkNest mx_R11 97 ⟨mx_R0, "arityOf", "(J)I"⟩ mx_R0, .methodLinkNest mx_R5 56 ⟨mx_R0, "canMatch", "(IJIJ)Z"⟩ mx_R0, .methodLinkNest mx_R7 304 ⟨mx_R4, "<init>", "()V"⟩ mx_R0, .methodLinkNest mx_R7 274 ⟨mx_R0, "lowestOf", "(I)I"⟩ mx_R0, .methodLinkNest mx_R10 48 ⟨mx_R0, "arityOf", "(J)I"⟩ mx_R0, .methodLinkNest mx_R7 180 ⟨mx_R0, "isCallable", "(IJ)Z"⟩ mx_R0, .methodLinkNest mx_R7 202 ⟨mx_R0, "builtinOf", "(J)I"⟩ mx_R0, .methodLinkNest mx_R7 245 ⟨mx_R2, "<init>", "()V"⟩ mx_R0, .methodLinkNest mx_R7 236 ⟨mx_R0, "arityOf", "(J)I"⟩ mx_R0, .castable "[I" "java/lang/Cloneable", .castable "[J" "java/lang/Cloneable"]
theorem mx_nw_ok : im_nw mx_nw := by
  intro w hw
  simp only [mx_nw, List.mem_cons, List.not_mem_nil, or_false] at hw
  rcases hw with rfl | rfl | rfl | rfl | rfl | rfl | rfl | rfl | rfl | rfl | rfl | rfl | rfl | rfl | rfl | rfl | rfl | rfl
  all_goals first | exact Or.inl ⟨_, _, _, _, rfl⟩ | exact Or.inr ⟨_, _, rfl⟩
theorem mx_nw_in : mx_nw = [183, 334, 353, 749, 767, 888, 912, 1013, 1035, 1070, 1113, 1159, 1212, 1217, 1280, 1311, 304, 318].filterMap (fun i => lw_tbl[i]?) := by decide +kernel
theorem mx_ao : [mx_R3, mx_R5, mx_R4, mx_R2].map (fun c => Cond.arrayOver (.object c)) = [402, 414, 422, 424].filterMap (fun i => lw_tbl[i]?) := by decide +kernel
theorem mx_w0 : u_ws mx_R0 mx_T0 7 = [661, 663, 665, 667, 669, 671, 673].filterMap (fun i => lw_tbl[i]?) ∧ (u_ws mx_R0 mx_T0 7).all goodWord = true := by decide +kernel
theorem mx_n0 : ∀ a, a < 7 → ∀ b, b < 7 → a ≠ b → (mx_T0 a).2.1 ≠ (mx_T0 b).2.1 := by decide +kernel
theorem mx_t0 : ∀ k, k < 7 → parseFieldDescriptor (mx_T0 k).2.2.1 = some (mx_y0 k) := by decide +kernel
theorem mx_d0 : ∀ k, k < 7 → defaultValue (mx_y0 k) = im_dv (mx_kd 0 k) := by decide +kernel
theorem mx_w1 : u_ws mx_R1 mx_T1 9 = [522, 524, 526, 528, 530, 532, 534, 536, 538].filterMap (fun i => lw_tbl[i]?) ∧ (u_ws mx_R1 mx_T1 9).all goodWord = true := by decide +kernel
theorem mx_n1 : ∀ a, a < 9 → ∀ b, b < 9 → a ≠ b → (mx_T1 a).2.1 ≠ (mx_T1 b).2.1 := by decide +kernel
theorem mx_t1 : ∀ k, k < 9 → parseFieldDescriptor (mx_T1 k).2.2.1 = some (mx_y1 k) := by decide +kernel
theorem mx_d1 : ∀ k, k < 9 → defaultValue (mx_y1 k) = im_dv (mx_kd 1 k) := by decide +kernel
theorem mx_w2 : u_ws mx_R2 mx_T2 6 = [1294, 1296, 1298, 1300, 1302, 1304].filterMap (fun i => lw_tbl[i]?) ∧ (u_ws mx_R2 mx_T2 6).all goodWord = true := by decide +kernel
theorem mx_n2 : ∀ a, a < 6 → ∀ b, b < 6 → a ≠ b → (mx_T2 a).2.1 ≠ (mx_T2 b).2.1 := by decide +kernel
theorem mx_t2 : ∀ k, k < 6 → parseFieldDescriptor (mx_T2 k).2.2.1 = some (mx_y2 k) := by decide +kernel
theorem mx_d2 : ∀ k, k < 6 → defaultValue (mx_y2 k) = im_dv (mx_kd 2 k) := by decide +kernel
theorem mx_w3 : u_ws mx_R3 mx_T3 9 = [376, 378, 380, 382, 384, 386, 388, 390, 392].filterMap (fun i => lw_tbl[i]?) ∧ (u_ws mx_R3 mx_T3 9).all goodWord = true := by decide +kernel
theorem mx_n3 : ∀ a, a < 9 → ∀ b, b < 9 → a ≠ b → (mx_T3 a).2.1 ≠ (mx_T3 b).2.1 := by decide +kernel
theorem mx_t3 : ∀ k, k < 9 → parseFieldDescriptor (mx_T3 k).2.2.1 = some (mx_y3 k) := by decide +kernel
theorem mx_d3 : ∀ k, k < 9 → defaultValue (mx_y3 k) = im_dv (mx_kd 3 k) := by decide +kernel
theorem mx_w4 : u_ws mx_R4 mx_T4 5 = [1081, 1083, 1085, 1087, 1089].filterMap (fun i => lw_tbl[i]?) ∧ (u_ws mx_R4 mx_T4 5).all goodWord = true := by decide +kernel
theorem mx_n4 : ∀ a, a < 5 → ∀ b, b < 5 → a ≠ b → (mx_T4 a).2.1 ≠ (mx_T4 b).2.1 := by decide +kernel
theorem mx_t4 : ∀ k, k < 5 → parseFieldDescriptor (mx_T4 k).2.2.1 = some (mx_y4 k) := by decide +kernel
theorem mx_d4 : ∀ k, k < 5 → defaultValue (mx_y4 k) = im_dv (mx_kd 4 k) := by decide +kernel
theorem mx_w5 : u_ws mx_R5 mx_T5 3 = [407, 409, 411].filterMap (fun i => lw_tbl[i]?) ∧ (u_ws mx_R5 mx_T5 3).all goodWord = true := by decide +kernel
theorem mx_n5 : ∀ a, a < 3 → ∀ b, b < 3 → a ≠ b → (mx_T5 a).2.1 ≠ (mx_T5 b).2.1 := by decide +kernel
theorem mx_t5 : ∀ k, k < 3 → parseFieldDescriptor (mx_T5 k).2.2.1 = some (mx_y5 k) := by decide +kernel
theorem mx_d5 : ∀ k, k < 3 → defaultValue (mx_y5 k) = im_dv (mx_kd 5 k) := by decide +kernel
theorem mx_w6 : u_ws mx_R6 mx_T6 18 = [251, 253, 255, 257, 259, 261, 263, 265, 267, 269, 271, 273, 275, 277, 279, 281, 283, 285].filterMap (fun i => lw_tbl[i]?) ∧ (u_ws mx_R6 mx_T6 18).all goodWord = true := by decide +kernel
theorem mx_n6 : ∀ a, a < 18 → ∀ b, b < 18 → a ≠ b → (mx_T6 a).2.1 ≠ (mx_T6 b).2.1 := by decide +kernel
theorem mx_t6 : ∀ k, k < 18 → parseFieldDescriptor (mx_T6 k).2.2.1 = some (mx_y6 k) := by decide +kernel
theorem mx_d6 : ∀ k, k < 18 → defaultValue (mx_y6 k) = im_dv (mx_kd 6 k) := by decide +kernel
theorem mx_w7 : u_ws mx_R7 mx_T7 19 = [584, 586, 588, 590, 592, 594, 596, 598, 600, 602, 604, 606, 608, 610, 612, 614, 616, 618, 620].filterMap (fun i => lw_tbl[i]?) ∧ (u_ws mx_R7 mx_T7 19).all goodWord = true := by decide +kernel
theorem mx_n7 : ∀ a, a < 19 → ∀ b, b < 19 → a ≠ b → (mx_T7 a).2.1 ≠ (mx_T7 b).2.1 := by decide +kernel
theorem mx_t7 : ∀ k, k < 19 → parseFieldDescriptor (mx_T7 k).2.2.1 = some (mx_y7 k) := by decide +kernel
theorem mx_d7 : ∀ k, k < 19 → defaultValue (mx_y7 k) = im_dv (mx_kd 7 k) := by decide +kernel
theorem mx_w8 : u_ws mx_R8 mx_T8 9 = [445, 447, 449, 451, 453, 455, 457, 459, 461].filterMap (fun i => lw_tbl[i]?) ∧ (u_ws mx_R8 mx_T8 9).all goodWord = true := by decide +kernel
theorem mx_n8 : ∀ a, a < 9 → ∀ b, b < 9 → a ≠ b → (mx_T8 a).2.1 ≠ (mx_T8 b).2.1 := by decide +kernel
theorem mx_t8 : ∀ k, k < 9 → parseFieldDescriptor (mx_T8 k).2.2.1 = some (mx_y8 k) := by decide +kernel
theorem mx_d8 : ∀ k, k < 9 → defaultValue (mx_y8 k) = im_dv (mx_kd 8 k) := by decide +kernel
theorem mx_w9 : u_ws mx_R9 mx_T9 6 = [197, 199, 201, 203, 205, 207].filterMap (fun i => lw_tbl[i]?) ∧ (u_ws mx_R9 mx_T9 6).all goodWord = true := by decide +kernel
theorem mx_n9 : ∀ a, a < 6 → ∀ b, b < 6 → a ≠ b → (mx_T9 a).2.1 ≠ (mx_T9 b).2.1 := by decide +kernel
theorem mx_t9 : ∀ k, k < 6 → parseFieldDescriptor (mx_T9 k).2.2.1 = some (mx_y9 k) := by decide +kernel
theorem mx_d9 : ∀ k, k < 6 → defaultValue (mx_y9 k) = im_dv (mx_kd 9 k) := by decide +kernel
theorem mx_w10 : u_ws mx_R10 mx_T10 11 = [483, 485, 487, 489, 491, 493, 495, 497, 499, 501, 503].filterMap (fun i => lw_tbl[i]?) ∧ (u_ws mx_R10 mx_T10 11).all goodWord = true := by decide +kernel
theorem mx_n10 : ∀ a, a < 11 → ∀ b, b < 11 → a ≠ b → (mx_T10 a).2.1 ≠ (mx_T10 b).2.1 := by decide +kernel
theorem mx_t10 : ∀ k, k < 11 → parseFieldDescriptor (mx_T10 k).2.2.1 = some (mx_y10 k) := by decide +kernel
theorem mx_d10 : ∀ k, k < 11 → defaultValue (mx_y10 k) = im_dv (mx_kd 10 k) := by decide +kernel
theorem mx_w11 : u_ws mx_R11 mx_T11 8 = [637, 639, 641, 643, 645, 647, 649, 651].filterMap (fun i => lw_tbl[i]?) ∧ (u_ws mx_R11 mx_T11 8).all goodWord = true := by decide +kernel
theorem mx_n11 : ∀ a, a < 8 → ∀ b, b < 8 → a ≠ b → (mx_T11 a).2.1 ≠ (mx_T11 b).2.1 := by decide +kernel
theorem mx_t11 : ∀ k, k < 8 → parseFieldDescriptor (mx_T11 k).2.2.1 = some (mx_y11 k) := by decide +kernel
theorem mx_d11 : ∀ k, k < 8 → defaultValue (mx_y11 k) = im_dv (mx_kd 11 k) := by decide +kernel
theorem mx_w12 : u_ws mx_R12 mx_T12 74 = [1477, 1479, 1481, 1483, 1485, 1487, 1489, 1491, 1493, 1495, 1497, 1499, 1501, 1503, 1505, 1507, 1509, 1511, 1513, 1515, 1517, 1519, 1521, 1523, 1525, 1527, 1529, 1531, 1533, 1535, 1537, 1539, 1541, 1543, 1545, 1547, 1549, 1551, 1553, 1555, 1557, 1559, 1561, 1563, 1565, 1567, 1569, 1571, 1573, 1575, 1577, 1579, 1581, 1583, 1585, 1587, 1589, 1591, 1593, 1595, 1597, 1599, 1601, 1603, 1605, 1607, 1609, 1611, 1613, 1615, 1617, 1619, 1621, 1623].filterMap (fun i => lw_tbl[i]?) ∧ (u_ws mx_R12 mx_T12 74).all goodWord = true := by decide +kernel
theorem mx_n12 : ∀ a, a < 74 → ∀ b, b < 74 → a ≠ b → (mx_T12 a).2.1 ≠ (mx_T12 b).2.1 := by decide +kernel
theorem mx_t12 : ∀ k, k < 74 → parseFieldDescriptor (mx_T12 k).2.2.1 = some (mx_y12 k) := by decide +kernel
theorem mx_d12 : ∀ k, k < 74 → defaultValue (mx_y12 k) = im_dv (mx_kd 12 k) := by decide +kernel
/-- a kind and the type that it stands for -/
def im_kt (k : Nat) (t : FieldType) : Bool := match t with
  | .int => Nat.beq k 0
  | .long => Nat.beq k 1
  | .boolean => Nat.beq k 2
  | .object _ => Nat.beq k 3
  | .array _ => Nat.beq k 3
  | _ => false
theorem im_kt_ok {k : Nat} {t : FieldType} (h : im_kt k t = true) {v : Value} (hv : im_kf k v = true) : narrow t v = v ∧ fits t v = true := by
  cases t <;> first | (cases h; done) | skip
  all_goals (have e := Nat.eq_of_beq_eq_true h; subst e; cases v <;> first | exact ⟨rfl, rfl⟩ | (cases hv; done) | skip)
  rename_i x
  have h2 : (decide (x = 0) || decide (x = 1)) = true := hv
  rw [Bool.or_eq_true, decide_eq_true_eq, decide_eq_true_eq] at h2
  rcases h2 with rfl | rfl <;> exact ⟨rfl, rfl⟩
theorem im_lays {ws : List Cond} {ps : List Nat} (h : ws = ps.filterMap (fun i => lw_tbl[i]?) ∧ ws.all goodWord = true) : ∀ w ∈ ws, w ∈ im_Ts := by
  intro w hw
  have hg := List.all_eq_true.mp h.2 w hw
  rw [h.1] at hw
  obtain ⟨i, -, hi⟩ := List.mem_filterMap.mp hw
  exact im_in i hi hg
theorem mx_k0 : ∀ k, k < 7 → im_kt (mx_kd 0 k) (mx_y0 k) = true := by decide +kernel
theorem mx_k1 : ∀ k, k < 9 → im_kt (mx_kd 1 k) (mx_y1 k) = true := by decide +kernel
theorem mx_k2 : ∀ k, k < 6 → im_kt (mx_kd 2 k) (mx_y2 k) = true := by decide +kernel
theorem mx_k3 : ∀ k, k < 9 → im_kt (mx_kd 3 k) (mx_y3 k) = true := by decide +kernel
theorem mx_k4 : ∀ k, k < 5 → im_kt (mx_kd 4 k) (mx_y4 k) = true := by decide +kernel
theorem mx_k5 : ∀ k, k < 3 → im_kt (mx_kd 5 k) (mx_y5 k) = true := by decide +kernel
theorem mx_k6 : ∀ k, k < 18 → im_kt (mx_kd 6 k) (mx_y6 k) = true := by decide +kernel
theorem mx_k7 : ∀ k, k < 19 → im_kt (mx_kd 7 k) (mx_y7 k) = true := by decide +kernel
theorem mx_k8 : ∀ k, k < 9 → im_kt (mx_kd 8 k) (mx_y8 k) = true := by decide +kernel
theorem mx_k9 : ∀ k, k < 6 → im_kt (mx_kd 9 k) (mx_y9 k) = true := by decide +kernel
theorem mx_k10 : ∀ k, k < 11 → im_kt (mx_kd 10 k) (mx_y10 k) = true := by decide +kernel
theorem mx_k11 : ∀ k, k < 8 → im_kt (mx_kd 11 k) (mx_y11 k) = true := by decide +kernel
theorem mx_k12 : ∀ k, k < 74 → im_kt (mx_kd 12 k) (mx_y12 k) = true := by decide +kernel
theorem mx_cf : im_cf im_Ts mx_cl mx_rA mx_kd := by
  refine ⟨fun ci r hr => ?_, fun c hc => Option.isSome_iff_exists.mp ((show ∀ c ∈ mx_rA, (mx_cl[c]?).isSome = true by decide +kernel) c hc), im_in 288 (by decide +kernel) rfl, im_in 289 (by decide +kernel) rfl, im_in 210 (by decide +kernel) rfl⟩
  match ci, hr with
  | 0, hr => cases hr; exact ⟨im_lays mx_w0, im_in 174 (by decide +kernel) rfl, im_in 156 (by decide +kernel) rfl, mx_y0, mx_t0, mx_n0, mx_d0, fun k hk v hv => im_kt_ok (mx_k0 k hk) hv⟩
  | 1, hr => cases hr; exact ⟨im_lays mx_w1, im_in 507 (by decide +kernel) rfl, im_in 168 (by decide +kernel) rfl, mx_y1, mx_t1, mx_n1, mx_d1, fun k hk v hv => im_kt_ok (mx_k1 k hk) hv⟩
  | 2, hr => cases hr; exact ⟨im_lays mx_w2, im_in 1279 (by decide +kernel) rfl, im_in 172 (by decide +kernel) rfl, mx_y2, mx_t2, mx_n2, mx_d2, fun k hk v hv => im_kt_ok (mx_k2 k hk) hv⟩
  | 3, hr => cases hr; exact ⟨im_lays mx_w3, im_in 291 (by decide +kernel) rfl, im_in 160 (by decide +kernel) rfl, mx_y3, mx_t3, mx_n3, mx_d3, fun k hk v hv => im_kt_ok (mx_k3 k hk) hv⟩
  | 4, hr => cases hr; exact ⟨im_lays mx_w4, im_in 1069 (by decide +kernel) rfl, im_in 171 (by decide +kernel) rfl, mx_y4, mx_t4, mx_n4, mx_d4, fun k hk v hv => im_kt_ok (mx_k4 k hk) hv⟩
  | 5, hr => cases hr; exact ⟨im_lays mx_w5, im_in 396 (by decide +kernel) rfl, im_in 164 (by decide +kernel) rfl, mx_y5, mx_t5, mx_n5, mx_d5, fun k hk v hv => im_kt_ok (mx_k5 k hk) hv⟩
  | 6, hr => cases hr; exact ⟨im_lays mx_w6, im_in 212 (by decide +kernel) rfl, im_in 158 (by decide +kernel) rfl, mx_y6, mx_t6, mx_n6, mx_d6, fun k hk v hv => im_kt_ok (mx_k6 k hk) hv⟩
  | 7, hr => cases hr; exact ⟨im_lays mx_w7, im_in 416 (by decide +kernel) rfl, im_in 165 (by decide +kernel) rfl, mx_y7, mx_t7, mx_n7, mx_d7, fun k hk v hv => im_kt_ok (mx_k7 k hk) hv⟩
  | 8, hr => cases hr; exact ⟨im_lays mx_w8, im_in 426 (by decide +kernel) rfl, im_in 166 (by decide +kernel) rfl, mx_y8, mx_t8, mx_n8, mx_d8, fun k hk v hv => im_kt_ok (mx_k8 k hk) hv⟩
  | 9, hr => cases hr; exact ⟨im_lays mx_w9, im_in 182 (by decide +kernel) rfl, im_in 157 (by decide +kernel) rfl, mx_y9, mx_t9, mx_n9, mx_d9, fun k hk v hv => im_kt_ok (mx_k9 k hk) hv⟩
  | 10, hr => cases hr; exact ⟨im_lays mx_w10, im_in 465 (by decide +kernel) rfl, im_in 167 (by decide +kernel) rfl, mx_y10, mx_t10, mx_n10, mx_d10, fun k hk v hv => im_kt_ok (mx_k10 k hk) hv⟩
  | 11, hr => cases hr; exact ⟨im_lays mx_w11, im_in 624 (by decide +kernel) rfl, im_in 169 (by decide +kernel) rfl, mx_y11, mx_t11, mx_n11, mx_d11, fun k hk v hv => im_kt_ok (mx_k11 k hk) hv⟩
  | 12, hr => cases hr; exact ⟨im_lays mx_w12, im_in 1392 (by decide +kernel) rfl, im_in 170 (by decide +kernel) rfl, mx_y12, mx_t12, mx_n12, mx_d12, fun k hk v hv => im_kt_ok (mx_k12 k hk) hv⟩
  | k + 13, hr => simp [mx_cl] at hr
theorem mx_gf : im_gf im_Ts := ⟨fun w hw => (List.mem_filter.mp hw).2, im_in 179 (by decide +kernel) rfl, im_in 180 (by decide +kernel) rfl, im_in 311 (by decide +kernel) rfl, im_in 310 (by decide +kernel) rfl, im_in 162 (by decide +kernel) rfl, im_in 301 (by decide +kernel) rfl, im_in 302 (by decide +kernel) rfl⟩
