/-! ===== the words that travel: of the tables alone ===== -/
def mj_gw (w : Cond) : Bool := goodWord w || ((w.faceAtom && w.onTables) || (match w with | .fieldLinkNest _ _ _ _ _ _ => true | .methodLinkNest _ _ _ _ => true | .arrayOver (.array _) => true | _ => false))
def mj_tbl : List Cond := lw_tbl.filter mj_gw
/-! ===== the classes of the run and their fields (number, name, descriptor, final) ===== -/
def mj_cf : List (String × List (String × String × Bool)) := [
  ("ChartForest", [("grammar", "LChartForest$Grammar;", true), ("tape", "LChartForest$Tape;", true), ("chart", "LChartForest$Chart;", true), ("forest", "LChartForest$Forest;", true)]),
  ("ChartForest$Grammar", [("count", "I", false), ("lefts", "[I", true), ("behind", "[I", true)]),
  ("ChartForest$Tape", [("length", "I", false), ("terminals", "[I", true)]),
  ("ChartForest$Chart", [("grammar", "LChartForest$Grammar;", true), ("leaping", "Z", true), ("origins", "[[I", true), ("sizes", "[I", true), ("named", "[[I", true), ("agenda", "[I", true), ("agendaSize", "I", false), ("completeHere", "I", false)]),
  ("ChartForest$Forest", [("tape", "LChartForest$Tape;", true), ("counts", "LChartForest$Counts;", true), ("ways", "LChartForest$Ways;", true), ("readyEnds", "I", false), ("cells", "[I", true), ("met", "[Z", true), ("cellCount", "I", false), ("numbers", "[J", true)]),
  ("ChartForest$Counts", [("tape", "LChartForest$Tape;", true), ("table", "[J", true)]),
  ("ChartForest$Ways", [("grammar", "LChartForest$Grammar;", true), ("counts", "LChartForest$Counts;", true), ("from", "I", false), ("to", "I", false), ("count", "I", false), ("rules", "[I", true), ("innerCuts", "[I", true), ("trees", "[J", true)]),
  ("ChartForestModel", [("leaps", "Z", true), ("refusal", "I", false), ("rules", "I", false), ("left", "[I", false), ("lengths", "[I", false), ("body", "[I", false), ("fedCount", "I", false), ("terminals", "[I", false), ("items", "[Z", false), ("worked", "Z", false), ("derives", "[Z", false), ("counted", "[Z", false), ("number", "[J", false), ("met", "[Z", false), ("cutOne", "I", false), ("cutTwo", "I", false), ("todo", "[I", false), ("todoTree", "[J", false), ("todoCount", "I", false)]),
  ("java/lang/IllegalArgumentException", []), ("java/lang/IllegalStateException", []), ("java/lang/IndexOutOfBoundsException", []), ("java/util/NoSuchElementException", [])]
def mj_tb (q : String × List (String × String × Bool)) : vw_C := (q.1, fun k => (q.1, q.2.getD k ("", "", false)), q.2.length)
def mj_cls : List vw_C := mj_cf.map mj_tb
theorem mj_cf_in : mj_cf.all (fun q => (u_ws q.1 (mj_tb q).2.1 q.2.length).all (fun w => decide (w ∈ lw_tbl) && mj_gw w)) = true := by decide +kernel
theorem mj_cf_ty : mj_cf.all (fun q => (List.range q.2.length).all (fun k => (parseFieldDescriptor ((mj_tb q).2.1 k).2.2.1).isSome)) = true := by decide +kernel
theorem mj_cf_nm : mj_cf.all (fun q => (List.range q.2.length).all (fun a => (List.range q.2.length).all (fun b => decide (a ≠ b → ((mj_tb q).2.1 a).2.1 ≠ ((mj_tb q).2.1 b).2.1)))) = true := by decide +kernel
