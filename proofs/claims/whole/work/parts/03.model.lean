def RM : String := "LineAssemblerModel"
def FM : u_T := fun k => match k with
  | 0 => ("LineAssemblerModel", "names", "[J", true)
  | 1 => ("LineAssemblerModel", "shapes", "[B", true)
  | 2 => ("LineAssemblerModel", "patterns", "[I", true)
  | 3 => ("LineAssemblerModel", "thrown", "I", false)
  | 4 => ("LineAssemblerModel", "typed", "[C", true)
  | 5 => ("LineAssemblerModel", "typedSize", "I", false)
  | 6 => ("LineAssemblerModel", "text", "[C", true)
  | 7 => ("LineAssemblerModel", "size", "I", false)
  | 8 => ("LineAssemblerModel", "there", "Z", false)
  | 9 => ("LineAssemblerModel", "statements", "I", false)
  | 10 => ("LineAssemblerModel", "place", "[I", true)
  | 11 => ("LineAssemblerModel", "offset", "[I", true)
  | 12 => ("LineAssemblerModel", "bytes", "[I", true)
  | 13 => ("LineAssemblerModel", "labels", "I", false)
  | 14 => ("LineAssemblerModel", "label", "[I", true)
  | 15 => ("LineAssemblerModel", "where", "[I", true)
  | 16 => ("LineAssemblerModel", "textSize", "I", false)
  | 17 => ("LineAssemblerModel", "dataSize", "I", false)
  | 18 => ("LineAssemblerModel", "rounds", "I", false)
  | 19 => ("LineAssemblerModel", "at", "I", false)
  | 20 => ("LineAssemblerModel", "token", "I", false)
  | 21 => ("LineAssemblerModel", "from", "I", false)
  | 22 => ("LineAssemblerModel", "to", "I", false)
  | 23 => ("LineAssemblerModel", "number", "I", false)
  | 24 => ("LineAssemblerModel", "fault", "I", false)
  | 25 => ("LineAssemblerModel", "line", "I", false)
  | 26 => ("LineAssemblerModel", "section", "I", false)
  | 27 => ("LineAssemblerModel", "mode", "I", false)
  | 28 => ("LineAssemblerModel", "current", "I", false)
  | 29 => ("LineAssemblerModel", "address", "I", false)
  | 30 => ("LineAssemblerModel", "count", "I", false)
  | 31 => ("LineAssemblerModel", "wanted", "I", false)
  | 32 => ("LineAssemblerModel", "got", "I", false)
  | 33 => ("LineAssemblerModel", "grows", "Z", false)
  | 34 => ("LineAssemblerModel", "missing", "Z", false)
  | 35 => ("LineAssemblerModel", "divided", "Z", false)
  | 36 => ("LineAssemblerModel", "loose", "Z", false)
  | 37 => ("LineAssemblerModel", "pile", "[I", true)
  | 38 => ("LineAssemblerModel", "signs", "I", false)
  | _ => ("LineAssemblerModel", "values", "I", false)
def tM : Nat → FieldType := fun k => match k with
  | 0 => .array .long
  | 1 => .array .byte
  | 2 => .array .int
  | 3 => .int
  | 4 => .array .char
  | 5 => .int
  | 6 => .array .char
  | 7 => .int
  | 8 => .boolean
  | 9 => .int
  | 10 => .array .int
  | 11 => .array .int
  | 12 => .array .int
  | 13 => .int
  | 14 => .array .int
  | 15 => .array .int
  | 16 => .int
  | 17 => .int
  | 18 => .int
  | 19 => .int
  | 20 => .int
  | 21 => .int
  | 22 => .int
  | 23 => .int
  | 24 => .int
  | 25 => .int
  | 26 => .int
  | 27 => .int
  | 28 => .int
  | 29 => .int
  | 30 => .int
  | 31 => .int
  | 32 => .int
  | 33 => .boolean
  | 34 => .boolean
  | 35 => .boolean
  | 36 => .boolean
  | 37 => .array .int
  | 38 => .int
  | _ => .int
set_option maxRecDepth 20000 in
theorem nM : ∀ a, a < 40 → ∀ b, b < 40 → a ≠ b → (FM a).2.1 ≠ (FM b).2.1 := by decide +kernel
theorem tM_ok : ∀ k, k < 40 → parseFieldDescriptor (FM k).2.2.1 = some (tM k) := by decide +kernel
set_option maxRecDepth 20000 in
theorem iM0 : (u_ws RM FM 40).all (fun w => decide (w ∈ tables_1) && goodWord w) = true := by decide +kernel
theorem iM : ∀ w ∈ u_ws RM FM 40, w ∈ lw_gd := fun w h => by
  have h1 := List.all_eq_true.mp iM0 w h
  simp only [Bool.and_eq_true, decide_eq_true_eq] at h1
  exact lw_gdm h1.1 h1.2
def R_Row : String := "LineAssembler$Row"
def F_Row : u_T := fun k => match k with
  | 0 => ("LineAssembler$Row", "count", "I", false)
  | _ => ("LineAssembler$Row", "cells", "[I", false)
def t_Row : Nat → FieldType := fun k => match k with
  | 0 => .int
  | _ => .array .int
theorem n_Row : ∀ a, a < 2 → ∀ b, b < 2 → a ≠ b → (F_Row a).2.1 ≠ (F_Row b).2.1 := by decide +kernel
theorem tok_Row : ∀ k, k < 2 → parseFieldDescriptor (F_Row k).2.2.1 = some (t_Row k) := by decide +kernel
set_option maxRecDepth 20000 in
theorem i0_Row : (u_ws R_Row F_Row 2).all (fun w => decide (w ∈ tables_1) && goodWord w) = true := by decide +kernel
theorem i_Row : ∀ w ∈ u_ws R_Row F_Row 2, w ∈ lw_gd := fun w h => by
  have h1 := List.all_eq_true.mp i0_Row w h
  simp only [Bool.and_eq_true, decide_eq_true_eq] at h1
  exact lw_gdm h1.1 h1.2
def R_Nam : String := "LineAssembler$Names"
def F_Nam : u_T := fun k => match k with
  | 0 => ("LineAssembler$Names", "sorts", "LLineAssembler$Row;", true)
  | 1 => ("LineAssembler$Names", "values", "LLineAssembler$Row;", true)
  | 2 => ("LineAssembler$Names", "operations", "LLineAssembler$Row;", true)
  | 3 => ("LineAssembler$Names", "registers", "LLineAssembler$Row;", true)
  | 4 => ("LineAssembler$Names", "orders", "LLineAssembler$Row;", true)
  | 5 => ("LineAssembler$Names", "dot", "I", true)
  | 6 => ("LineAssembler$Names", "hi", "I", true)
  | 7 => ("LineAssembler$Names", "lo", "I", true)
  | 8 => ("LineAssembler$Names", "heads", "[I", true)
  | 9 => ("LineAssembler$Names", "older", "LLineAssembler$Row;", true)
  | 10 => ("LineAssembler$Names", "slots", "LLineAssembler$Row;", true)
  | 11 => ("LineAssembler$Names", "starts", "LLineAssembler$Row;", true)
  | 12 => ("LineAssembler$Names", "pool", "LLineAssembler$Row;", true)
  | 13 => ("LineAssembler$Names", "kept", "I", true)
  | _ => ("LineAssembler$Names", "hash", "I", false)
def t_Nam : Nat → FieldType := fun k => match k with
  | 0 => .object "LineAssembler$Row"
  | 1 => .object "LineAssembler$Row"
  | 2 => .object "LineAssembler$Row"
  | 3 => .object "LineAssembler$Row"
  | 4 => .object "LineAssembler$Row"
  | 5 => .int
  | 6 => .int
  | 7 => .int
  | 8 => .array .int
  | 9 => .object "LineAssembler$Row"
  | 10 => .object "LineAssembler$Row"
  | 11 => .object "LineAssembler$Row"
  | 12 => .object "LineAssembler$Row"
  | 13 => .int
  | _ => .int
theorem n_Nam : ∀ a, a < 15 → ∀ b, b < 15 → a ≠ b → (F_Nam a).2.1 ≠ (F_Nam b).2.1 := by decide +kernel
theorem tok_Nam : ∀ k, k < 15 → parseFieldDescriptor (F_Nam k).2.2.1 = some (t_Nam k) := by decide +kernel
set_option maxRecDepth 20000 in
theorem i0_Nam : (u_ws R_Nam F_Nam 15).all (fun w => decide (w ∈ tables_1) && goodWord w) = true := by decide +kernel
theorem i_Nam : ∀ w ∈ u_ws R_Nam F_Nam 15, w ∈ lw_gd := fun w h => by
  have h1 := List.all_eq_true.mp i0_Nam w h
  simp only [Bool.and_eq_true, decide_eq_true_eq] at h1
  exact lw_gdm h1.1 h1.2
def R_Tok : String := "LineAssembler$Tokens"
def F_Tok : u_T := fun k => match k with
  | 0 => ("LineAssembler$Tokens", "lines", "I", false)
  | 1 => ("LineAssembler$Tokens", "count", "I", false)
  | 2 => ("LineAssembler$Tokens", "at", "I", false)
  | 3 => ("LineAssembler$Tokens", "kinds", "[I", false)
  | 4 => ("LineAssembler$Tokens", "values", "[I", false)
  | _ => ("LineAssembler$Tokens", "lengths", "[I", false)
def t_Tok : Nat → FieldType := fun k => match k with
  | 0 => .int
  | 1 => .int
  | 2 => .int
  | 3 => .array .int
  | 4 => .array .int
  | _ => .array .int
theorem n_Tok : ∀ a, a < 6 → ∀ b, b < 6 → a ≠ b → (F_Tok a).2.1 ≠ (F_Tok b).2.1 := by decide +kernel
theorem tok_Tok : ∀ k, k < 6 → parseFieldDescriptor (F_Tok k).2.2.1 = some (t_Tok k) := by decide +kernel
set_option maxRecDepth 20000 in
theorem i0_Tok : (u_ws R_Tok F_Tok 6).all (fun w => decide (w ∈ tables_1) && goodWord w) = true := by decide +kernel
theorem i_Tok : ∀ w ∈ u_ws R_Tok F_Tok 6, w ∈ lw_gd := fun w h => by
  have h1 := List.all_eq_true.mp i0_Tok w h
  simp only [Bool.and_eq_true, decide_eq_true_eq] at h1
  exact lw_gdm h1.1 h1.2
def R_Itm : String := "LineAssembler$Item"
def F_Itm : u_T := fun k => match k with
  | 0 => ("LineAssembler$Item", "lineNumber", "I", false)
  | 1 => ("LineAssembler$Item", "inData", "Z", false)
  | 2 => ("LineAssembler$Item", "mark", "I", false)
  | 3 => ("LineAssembler$Item", "word", "I", false)
  | 4 => ("LineAssembler$Item", "length", "I", false)
  | 5 => ("LineAssembler$Item", "offset", "I", false)
  | 6 => ("LineAssembler$Item", "head", "I", false)
  | 7 => ("LineAssembler$Item", "from", "I", false)
  | _ => ("LineAssembler$Item", "to", "I", false)
def t_Itm : Nat → FieldType := fun k => match k with
  | 0 => .int
  | 1 => .boolean
  | 2 => .int
  | 3 => .int
  | 4 => .int
  | 5 => .int
  | 6 => .int
  | 7 => .int
  | _ => .int
theorem n_Itm : ∀ a, a < 9 → ∀ b, b < 9 → a ≠ b → (F_Itm a).2.1 ≠ (F_Itm b).2.1 := by decide +kernel
theorem tok_Itm : ∀ k, k < 9 → parseFieldDescriptor (F_Itm k).2.2.1 = some (t_Itm k) := by decide +kernel
set_option maxRecDepth 20000 in
theorem i0_Itm : (u_ws R_Itm F_Itm 9).all (fun w => decide (w ∈ tables_1) && goodWord w) = true := by decide +kernel
theorem i_Itm : ∀ w ∈ u_ws R_Itm F_Itm 9, w ∈ lw_gd := fun w h => by
  have h1 := List.all_eq_true.mp i0_Itm w h
  simp only [Bool.and_eq_true, decide_eq_true_eq] at h1
  exact lw_gdm h1.1 h1.2
def R_Prg : String := "LineAssembler$Program"
def F_Prg : u_T := fun k => match k with
  | 0 => ("LineAssembler$Program", "labels", "LLineAssembler$Row;", true)
  | 1 => ("LineAssembler$Program", "constants", "I", false)
  | 2 => ("LineAssembler$Program", "count", "I", false)
  | 3 => ("LineAssembler$Program", "textEnd", "I", false)
  | 4 => ("LineAssembler$Program", "dataBegin", "I", false)
  | 5 => ("LineAssembler$Program", "lineNumber", "I", false)
  | 6 => ("LineAssembler$Program", "inData", "Z", false)
  | 7 => ("LineAssembler$Program", "head", "I", false)
  | 8 => ("LineAssembler$Program", "dataLength", "I", false)
  | 9 => ("LineAssembler$Program", "items", "Ljava/util/ArrayList;", true)
  | 10 => ("LineAssembler$Program", "none", "LLineAssembler$Item;", true)
  | _ => ("LineAssembler$Program", "nearest", "[I", true)
def t_Prg : Nat → FieldType := fun k => match k with
  | 0 => .object "LineAssembler$Row"
  | 1 => .int
  | 2 => .int
  | 3 => .int
  | 4 => .int
  | 5 => .int
  | 6 => .boolean
  | 7 => .int
  | 8 => .int
  | 9 => .object "java/util/ArrayList"
  | 10 => .object "LineAssembler$Item"
  | _ => .array .int
theorem n_Prg : ∀ a, a < 12 → ∀ b, b < 12 → a ≠ b → (F_Prg a).2.1 ≠ (F_Prg b).2.1 := by decide +kernel
theorem tok_Prg : ∀ k, k < 12 → parseFieldDescriptor (F_Prg k).2.2.1 = some (t_Prg k) := by decide +kernel
set_option maxRecDepth 20000 in
theorem i0_Prg : (u_ws R_Prg F_Prg 12).all (fun w => decide (w ∈ tables_1) && goodWord w) = true := by decide +kernel
theorem i_Prg : ∀ w ∈ u_ws R_Prg F_Prg 12, w ∈ lw_gd := fun w h => by
  have h1 := List.all_eq_true.mp i0_Prg w h
  simp only [Bool.and_eq_true, decide_eq_true_eq] at h1
  exact lw_gdm h1.1 h1.2
def R_Lex : String := "LineAssembler$Lexer"
def F_Lex : u_T := fun k => match k with
  | 0 => ("LineAssembler$Lexer", "text", "LLineAssembler$Row;", true)
  | 1 => ("LineAssembler$Lexer", "names", "LLineAssembler$Names;", true)
  | 2 => ("LineAssembler$Lexer", "tokens", "LLineAssembler$Tokens;", true)
  | 3 => ("LineAssembler$Lexer", "letters", "LLineAssembler$Row;", true)
  | _ => ("LineAssembler$Lexer", "at", "I", false)
def t_Lex : Nat → FieldType := fun k => match k with
  | 0 => .object "LineAssembler$Row"
  | 1 => .object "LineAssembler$Names"
  | 2 => .object "LineAssembler$Tokens"
  | 3 => .object "LineAssembler$Row"
  | _ => .int
theorem n_Lex : ∀ a, a < 5 → ∀ b, b < 5 → a ≠ b → (F_Lex a).2.1 ≠ (F_Lex b).2.1 := by decide +kernel
theorem tok_Lex : ∀ k, k < 5 → parseFieldDescriptor (F_Lex k).2.2.1 = some (t_Lex k) := by decide +kernel
set_option maxRecDepth 20000 in
theorem i0_Lex : (u_ws R_Lex F_Lex 5).all (fun w => decide (w ∈ tables_1) && goodWord w) = true := by decide +kernel
theorem i_Lex : ∀ w ∈ u_ws R_Lex F_Lex 5, w ∈ lw_gd := fun w h => by
  have h1 := List.all_eq_true.mp i0_Lex w h
  simp only [Bool.and_eq_true, decide_eq_true_eq] at h1
  exact lw_gdm h1.1 h1.2
def R_Frm : String := "LineAssembler$Formulas"
def F_Frm : u_T := fun k => match k with
  | 0 => ("LineAssembler$Formulas", "fixed", "Z", false)
  | 1 => ("LineAssembler$Formulas", "result", "I", false)
  | 2 => ("LineAssembler$Formulas", "names", "LLineAssembler$Names;", true)
  | 3 => ("LineAssembler$Formulas", "tokens", "LLineAssembler$Tokens;", true)
  | 4 => ("LineAssembler$Formulas", "program", "LLineAssembler$Program;", true)
  | 5 => ("LineAssembler$Formulas", "kinds", "LLineAssembler$Row;", true)
  | 6 => ("LineAssembler$Formulas", "values", "LLineAssembler$Row;", true)
  | 7 => ("LineAssembler$Formulas", "signs", "LLineAssembler$Row;", true)
  | 8 => ("LineAssembler$Formulas", "stack", "LLineAssembler$Row;", true)
  | 9 => ("LineAssembler$Formulas", "wanted", "Z", false)
  | 10 => ("LineAssembler$Formulas", "open", "I", false)
  | 11 => ("LineAssembler$Formulas", "unknown", "Z", false)
  | _ => ("LineAssembler$Formulas", "divided", "Z", false)
def t_Frm : Nat → FieldType := fun k => match k with
  | 0 => .boolean
  | 1 => .int
  | 2 => .object "LineAssembler$Names"
  | 3 => .object "LineAssembler$Tokens"
  | 4 => .object "LineAssembler$Program"
  | 5 => .object "LineAssembler$Row"
  | 6 => .object "LineAssembler$Row"
  | 7 => .object "LineAssembler$Row"
  | 8 => .object "LineAssembler$Row"
  | 9 => .boolean
  | 10 => .int
  | 11 => .boolean
  | _ => .boolean
theorem n_Frm : ∀ a, a < 13 → ∀ b, b < 13 → a ≠ b → (F_Frm a).2.1 ≠ (F_Frm b).2.1 := by decide +kernel
theorem tok_Frm : ∀ k, k < 13 → parseFieldDescriptor (F_Frm k).2.2.1 = some (t_Frm k) := by decide +kernel
set_option maxRecDepth 20000 in
theorem i0_Frm : (u_ws R_Frm F_Frm 13).all (fun w => decide (w ∈ tables_1) && goodWord w) = true := by decide +kernel
theorem i_Frm : ∀ w ∈ u_ws R_Frm F_Frm 13, w ∈ lw_gd := fun w h => by
  have h1 := List.all_eq_true.mp i0_Frm w h
  simp only [Bool.and_eq_true, decide_eq_true_eq] at h1
  exact lw_gdm h1.1 h1.2
def R_Par : String := "LineAssembler$Parser"
def F_Par : u_T := fun k => match k with
  | 0 => ("LineAssembler$Parser", "names", "LLineAssembler$Names;", true)
  | 1 => ("LineAssembler$Parser", "tokens", "LLineAssembler$Tokens;", true)
  | 2 => ("LineAssembler$Parser", "program", "LLineAssembler$Program;", true)
  | _ => ("LineAssembler$Parser", "formulas", "LLineAssembler$Formulas;", true)
def t_Par : Nat → FieldType := fun k => match k with
  | 0 => .object "LineAssembler$Names"
  | 1 => .object "LineAssembler$Tokens"
  | 2 => .object "LineAssembler$Program"
  | _ => .object "LineAssembler$Formulas"
theorem n_Par : ∀ a, a < 4 → ∀ b, b < 4 → a ≠ b → (F_Par a).2.1 ≠ (F_Par b).2.1 := by decide +kernel
theorem tok_Par : ∀ k, k < 4 → parseFieldDescriptor (F_Par k).2.2.1 = some (t_Par k) := by decide +kernel
set_option maxRecDepth 20000 in
theorem i0_Par : (u_ws R_Par F_Par 4).all (fun w => decide (w ∈ tables_1) && goodWord w) = true := by decide +kernel
theorem i_Par : ∀ w ∈ u_ws R_Par F_Par 4, w ∈ lw_gd := fun w h => by
  have h1 := List.all_eq_true.mp i0_Par w h
  simp only [Bool.and_eq_true, decide_eq_true_eq] at h1
  exact lw_gdm h1.1 h1.2
def R_Enc : String := "LineAssembler$Encoder"
def F_Enc : u_T := fun k => match k with
  | 0 => ("LineAssembler$Encoder", "image", "LLineAssembler$Row;", true)
  | 1 => ("LineAssembler$Encoder", "lines", "LLineAssembler$Row;", true)
  | 2 => ("LineAssembler$Encoder", "rounds", "I", false)
  | 3 => ("LineAssembler$Encoder", "program", "LLineAssembler$Program;", true)
  | 4 => ("LineAssembler$Encoder", "formulas", "LLineAssembler$Formulas;", true)
  | _ => ("LineAssembler$Encoder", "letters", "LLineAssembler$Row;", true)
def t_Enc : Nat → FieldType := fun k => match k with
  | 0 => .object "LineAssembler$Row"
  | 1 => .object "LineAssembler$Row"
  | 2 => .int
  | 3 => .object "LineAssembler$Program"
  | 4 => .object "LineAssembler$Formulas"
  | _ => .object "LineAssembler$Row"
theorem n_Enc : ∀ a, a < 6 → ∀ b, b < 6 → a ≠ b → (F_Enc a).2.1 ≠ (F_Enc b).2.1 := by decide +kernel
theorem tok_Enc : ∀ k, k < 6 → parseFieldDescriptor (F_Enc k).2.2.1 = some (t_Enc k) := by decide +kernel
set_option maxRecDepth 20000 in
theorem i0_Enc : (u_ws R_Enc F_Enc 6).all (fun w => decide (w ∈ tables_1) && goodWord w) = true := by decide +kernel
theorem i_Enc : ∀ w ∈ u_ws R_Enc F_Enc 6, w ∈ lw_gd := fun w h => by
  have h1 := List.all_eq_true.mp i0_Enc w h
  simp only [Bool.and_eq_true, decide_eq_true_eq] at h1
  exact lw_gdm h1.1 h1.2
def R_Asm : String := "LineAssembler"
def F_Asm : u_T := fun k => match k with
  | 0 => ("LineAssembler", "text", "LLineAssembler$Row;", true)
  | 1 => ("LineAssembler", "names", "LLineAssembler$Names;", true)
  | 2 => ("LineAssembler", "tokens", "LLineAssembler$Tokens;", true)
  | 3 => ("LineAssembler", "letters", "LLineAssembler$Row;", true)
  | 4 => ("LineAssembler", "program", "LLineAssembler$Program;", true)
  | 5 => ("LineAssembler", "lexer", "LLineAssembler$Lexer;", true)
  | 6 => ("LineAssembler", "formulas", "LLineAssembler$Formulas;", true)
  | 7 => ("LineAssembler", "parser", "LLineAssembler$Parser;", true)
  | 8 => ("LineAssembler", "encoder", "LLineAssembler$Encoder;", true)
  | _ => ("LineAssembler", "assembled", "Z", false)
def t_Asm : Nat → FieldType := fun k => match k with
  | 0 => .object "LineAssembler$Row"
  | 1 => .object "LineAssembler$Names"
  | 2 => .object "LineAssembler$Tokens"
  | 3 => .object "LineAssembler$Row"
  | 4 => .object "LineAssembler$Program"
  | 5 => .object "LineAssembler$Lexer"
  | 6 => .object "LineAssembler$Formulas"
  | 7 => .object "LineAssembler$Parser"
  | 8 => .object "LineAssembler$Encoder"
  | _ => .boolean
theorem n_Asm : ∀ a, a < 10 → ∀ b, b < 10 → a ≠ b → (F_Asm a).2.1 ≠ (F_Asm b).2.1 := by decide +kernel
theorem tok_Asm : ∀ k, k < 10 → parseFieldDescriptor (F_Asm k).2.2.1 = some (t_Asm k) := by decide +kernel
set_option maxRecDepth 20000 in
theorem i0_Asm : (u_ws R_Asm F_Asm 10).all (fun w => decide (w ∈ tables_1) && goodWord w) = true := by decide +kernel
theorem i_Asm : ∀ w ∈ u_ws R_Asm F_Asm 10, w ∈ lw_gd := fun w h => by
  have h1 := List.all_eq_true.mp i0_Asm w h
  simp only [Bool.and_eq_true, decide_eq_true_eq] at h1
  exact lw_gdm h1.1 h1.2
def R_Lst : String := "java/util/ArrayList"
def F_Lst : u_T := fun k => match k with
  | 0 => ("java/util/ArrayList", "elementData", "[Ljava/lang/Object;", false)
  | 1 => ("java/util/ArrayList", "size", "I", false)
  | _ => ("java/util/AbstractList", "modCount", "I", false)
def t_Lst : Nat → FieldType := fun k => match k with
  | 0 => .array (.object "java/lang/Object")
  | 1 => .int
  | _ => .int
theorem n_Lst : ∀ a, a < 3 → ∀ b, b < 3 → a ≠ b → (F_Lst a).2.1 ≠ (F_Lst b).2.1 := by decide +kernel
theorem tok_Lst : ∀ k, k < 3 → parseFieldDescriptor (F_Lst k).2.2.1 = some (t_Lst k) := by decide +kernel
set_option maxRecDepth 20000 in
theorem i0_Lst : (u_ws R_Lst F_Lst 3).all (fun w => decide (w ∈ tables_1) && goodWord w) = true := by decide +kernel
theorem i_Lst : ∀ w ∈ u_ws R_Lst F_Lst 3, w ∈ lw_gd := fun w h => by
  have h1 := List.all_eq_true.mp i0_Lst w h
  simp only [Bool.and_eq_true, decide_eq_true_eq] at h1
  exact lw_gdm h1.1 h1.2
def R_Str : String := "java/lang/String"
def F_Str : u_T := fun k => match k with
  | 0 => ("java/lang/String", "value", "[B", true)
  | _ => ("java/lang/String", "coder", "B", true)
def t_Str : Nat → FieldType := fun k => match k with
  | 0 => .array .byte
  | _ => .byte
theorem n_Str : ∀ a, a < 2 → ∀ b, b < 2 → a ≠ b → (F_Str a).2.1 ≠ (F_Str b).2.1 := by decide +kernel
theorem tok_Str : ∀ k, k < 2 → parseFieldDescriptor (F_Str k).2.2.1 = some (t_Str k) := by decide +kernel
set_option maxRecDepth 20000 in
theorem i0_Str : (u_ws R_Str F_Str 2).all (fun w => decide (w ∈ tables_1) && goodWord w) = true := by decide +kernel
theorem i_Str : ∀ w ∈ u_ws R_Str F_Str 2, w ∈ lw_gd := fun w h => by
  have h1 := List.all_eq_true.mp i0_Str w h
  simp only [Bool.and_eq_true, decide_eq_true_eq] at h1
  exact lw_gdm h1.1 h1.2
abbrev classes : List vw_C := [(RM, FM, 40), (R_Row, F_Row, 2), (R_Nam, F_Nam, 15), (R_Tok, F_Tok, 6), (R_Itm, F_Itm, 9), (R_Prg, F_Prg, 12), (R_Lex, F_Lex, 5), (R_Frm, F_Frm, 13), (R_Par, F_Par, 4), (R_Enc, F_Enc, 6), (R_Asm, F_Asm, 10), (R_Lst, F_Lst, 3), (R_Str, F_Str, 2)]
def M_names_l : List Int64 := [16641, 9555, 49939, 82707, 5587731, 74712, 50323, 5267, 1167, 17281, 50509, 2147661, 22869493069, 354469197, 90692, 5595716, 53586, 5558610, 2375937, 2442003, 354763539, 2434008, 38031, 2376577, 2409235, 2409619, 2364563, 140, 524, 1484, 86156, 86540, 4767818, 147, 531, 1491, 38220, 54564161, 69954, 21378, 82690, 20930, 5587714, 5525954, 49226, 6181075, 6637753161544513, 103702052795201, 103717275759425, 103702220567361, 1620582396737, 103712877245249, 103723480445761, 6638110481118017, 6638121084318529, 6182028, 356539183378, 5589254418, 5652748514660626, 35540911272210, 555345068306, 149767936590516498, 84730182, 658288468294, 204476613, 11829321861, 66510, 82258, 256790881679448387, 6080835, 6109507, 272427331, 48452902345027, 9731840323, 2410819, 156551491, 201632067, 43331, 293725470121269571, 9869801795, 9685252419, 9734461763, 39139651, 306022723, 4782403, 70785347, 28203821379, 28004854083, 9868228931, 17504717123, 4761923, 19528984899, 5822787, 68163907, 17504745795, 1421, 82894, 6885715, 6898451, 29006, 6837139, 6898131, 1162, 3194947, 10, 3182676, 6885698, 6837122, 6836674, 6898434, 6836994, 6898114, 82370, 21250, 5587394, 5526274, 76, 588, 341857573, 22024485, 5575013, 89231525, 103813669, 71890405, 9815535717, 28069146725, 5419369701, 15152234597]
def M_names : Nat → Int64 := fun k => M_names_l.getD k 0
def M_shapes_l : List Int32 := [1, 1, 1, 1, 1, 1, 1, 1, 1, 1, 1, 1, 1, 1, 1, 1, 1, 1, 2, 2, 2, 2, 2, 2, 3, 3, 3, 4, 4, 4, 4, 4, 30, 5, 5, 5, 6, 6, 7, 7, 7, 7, 7, 7, 8, 9, 9, 9, 9, 9, 9, 9, 9, 9, 9, 10, 11, 11, 11, 11, 11, 11, 12, 12, 12, 12, 12, 12, 13, 14, 14, 16, 16, 17, 17, 18, 19, 19, 20, 21, 21, 22, 23, 23, 23, 23, 24, 24, 25, 26, 27, 27, 28, 28, 29, 31, 31, 31, 31, 32, 32, 32, 33, 34, 34, 34, 35, 35, 35, 35, 36, 36, 37, 37, 37, 37, 38, 39, 40, 41, 42, 43, 44, 45, 46, 47, 48, 49]
def M_shapes : Nat → Int32 := fun k => M_shapes_l.getD k 0
def M_patterns_l : List Int32 := [51, 1073741875, 4147, 8243, 12339, 16435, 20531, 1073762355, 24627, 28723, 33554483, 33558579, 33562675, 33566771, 33570867, 33574963, 33579059, 33583155, 19, 8211, 12307, 16403, 24595, 28691, 4115, 20499, 1073762323, 3, 4099, 8195, 16387, 20483, 103, 35, 4131, 8227, 55, 23, 99, 4195, 16483, 20579, 24675, 28771, 111, 402661423, 134225967, 8239, 536879151, 1610620975, 1073750063, -2147475409, -1610604497, -1073733585, -536862673, 268443695, -1073733517, -1072684941, -1071636365, -939515789, -938467213, -937418637, 267386895, 4111, 115, 1048691, 19, 32871, 0, 16384, 49152, 1, 36866, 1, 16385, 24577, 8193, 40961, 24833, 32769, 33793, 34817, 35841, 35873, 35905, 35937, 49153, 57345, 2, 16386, 32770, 36866, 32770, 36866, 49154, 19, -1032173, 1060883, 8243, 1073741875, 12339, 8243, 103, 1, 0, 0, 99, 4195, 20579, 16483, 20579, 16483, 16483, 20579, 24675, 28771, 0, 0, 0, 0, 0, 1, 2, 4, 0, 0, 0, 0]
def M_patterns : Nat → Int32 := fun k => M_patterns_l.getD k 0
/-- the reference's state: its numbers (0 thrown, 1 typedSize, 2 size, 3 there, 4 statements, 5 labels, 6 textSize, 7 dataSize, 8 rounds, 9 at, 10 token, 11 from, 12 to, 13 number, 14 fault, 15 line, 16 section, 17 mode, 18 current, 19 address, 20 count, 21 wanted, 22 got, 23 grows, 24 missing, 25 divided, 26 loose, 27 signs, 28 values), its arrays (0 typed, 1 text, 2 place, 3 offset, 4 bytes, 5 label, 6 where, 7 pile) -/
abbrev MS : Type := (Nat → Int32) × (Nat → Nat → Int32)
def sF (σ : MS) (j : Nat) (v : Int32) : MS := (upd σ.1 j v, σ.2)
def sA (σ : MS) (k i : Nat) (v : Int32) : MS := (σ.1, fun q => if q = k then upd (σ.2 k) i v else σ.2 q)
abbrev flM (h : Nat → Nat) (σ : MS) : List Value := [.ref (h 1), .ref (h 2), .ref (h 3), .int (σ.1 0), .ref (h 4), .int (σ.1 1), .ref (h 5), .int (σ.1 2), .int (σ.1 3), .int (σ.1 4), .ref (h 6), .ref (h 7), .ref (h 8), .int (σ.1 5), .ref (h 9), .ref (h 10), .int (σ.1 6), .int (σ.1 7), .int (σ.1 8), .int (σ.1 9), .int (σ.1 10), .int (σ.1 11), .int (σ.1 12), .int (σ.1 13), .int (σ.1 14), .int (σ.1 15), .int (σ.1 16), .int (σ.1 17), .int (σ.1 18), .int (σ.1 19), .int (σ.1 20), .int (σ.1 21), .int (σ.1 22), .int (σ.1 23), .int (σ.1 24), .int (σ.1 25), .int (σ.1 26), .ref (h 11), .int (σ.1 27), .int (σ.1 28)]
abbrev wM (dA : Nat → ClassId) (h : Nat → Nat) (σ : MS) : va_W := [(h 0, .inr (0, flM h σ)), (h 1, .inl (dA 0, 128, .inr (.inl M_names))), (h 2, .inl (dA 1, 128, .inl M_shapes)), (h 3, .inl (dA 2, 128, .inl M_patterns)), (h 4, .inl (dA 3, 4100, .inl (σ.2 0))), (h 5, .inl (dA 3, 4100, .inl (σ.2 1))), (h 6, .inl (dA 2, 1030, .inl (σ.2 2))), (h 7, .inl (dA 2, 1030, .inl (σ.2 3))), (h 8, .inl (dA 2, 1030, .inl (σ.2 4))), (h 9, .inl (dA 2, 2060, .inl (σ.2 5))), (h 10, .inl (dA 2, 2060, .inl (σ.2 6))), (h 11, .inl (dA 2, 4100, .inl (σ.2 7)))]
abbrev tyM (dA : Nat → ClassId) : List (ClassId × FieldType) := [(dA 0, .long), (dA 1, .byte), (dA 2, .int), (dA 3, .char)]
theorem st_thrown (dA : Nat → ClassId) (h : Nat → Nat) (σ : MS) (v : Int32) : (wM dA h σ).set 0 (h 0, .inr (0, (flM h σ).set 3 (.int v))) = wM dA h (sF σ 0 v) := rfl
theorem st_typedSize (dA : Nat → ClassId) (h : Nat → Nat) (σ : MS) (v : Int32) : (wM dA h σ).set 0 (h 0, .inr (0, (flM h σ).set 5 (.int v))) = wM dA h (sF σ 1 v) := rfl
theorem st_size (dA : Nat → ClassId) (h : Nat → Nat) (σ : MS) (v : Int32) : (wM dA h σ).set 0 (h 0, .inr (0, (flM h σ).set 7 (.int v))) = wM dA h (sF σ 2 v) := rfl
theorem st_there (dA : Nat → ClassId) (h : Nat → Nat) (σ : MS) (v : Int32) : (wM dA h σ).set 0 (h 0, .inr (0, (flM h σ).set 8 (.int v))) = wM dA h (sF σ 3 v) := rfl
theorem st_statements (dA : Nat → ClassId) (h : Nat → Nat) (σ : MS) (v : Int32) : (wM dA h σ).set 0 (h 0, .inr (0, (flM h σ).set 9 (.int v))) = wM dA h (sF σ 4 v) := rfl
theorem st_labels (dA : Nat → ClassId) (h : Nat → Nat) (σ : MS) (v : Int32) : (wM dA h σ).set 0 (h 0, .inr (0, (flM h σ).set 13 (.int v))) = wM dA h (sF σ 5 v) := rfl
theorem st_textSize (dA : Nat → ClassId) (h : Nat → Nat) (σ : MS) (v : Int32) : (wM dA h σ).set 0 (h 0, .inr (0, (flM h σ).set 16 (.int v))) = wM dA h (sF σ 6 v) := rfl
theorem st_dataSize (dA : Nat → ClassId) (h : Nat → Nat) (σ : MS) (v : Int32) : (wM dA h σ).set 0 (h 0, .inr (0, (flM h σ).set 17 (.int v))) = wM dA h (sF σ 7 v) := rfl
theorem st_rounds (dA : Nat → ClassId) (h : Nat → Nat) (σ : MS) (v : Int32) : (wM dA h σ).set 0 (h 0, .inr (0, (flM h σ).set 18 (.int v))) = wM dA h (sF σ 8 v) := rfl
theorem st_at (dA : Nat → ClassId) (h : Nat → Nat) (σ : MS) (v : Int32) : (wM dA h σ).set 0 (h 0, .inr (0, (flM h σ).set 19 (.int v))) = wM dA h (sF σ 9 v) := rfl
theorem st_token (dA : Nat → ClassId) (h : Nat → Nat) (σ : MS) (v : Int32) : (wM dA h σ).set 0 (h 0, .inr (0, (flM h σ).set 20 (.int v))) = wM dA h (sF σ 10 v) := rfl
theorem st_from (dA : Nat → ClassId) (h : Nat → Nat) (σ : MS) (v : Int32) : (wM dA h σ).set 0 (h 0, .inr (0, (flM h σ).set 21 (.int v))) = wM dA h (sF σ 11 v) := rfl
theorem st_to (dA : Nat → ClassId) (h : Nat → Nat) (σ : MS) (v : Int32) : (wM dA h σ).set 0 (h 0, .inr (0, (flM h σ).set 22 (.int v))) = wM dA h (sF σ 12 v) := rfl
theorem st_number (dA : Nat → ClassId) (h : Nat → Nat) (σ : MS) (v : Int32) : (wM dA h σ).set 0 (h 0, .inr (0, (flM h σ).set 23 (.int v))) = wM dA h (sF σ 13 v) := rfl
theorem st_fault (dA : Nat → ClassId) (h : Nat → Nat) (σ : MS) (v : Int32) : (wM dA h σ).set 0 (h 0, .inr (0, (flM h σ).set 24 (.int v))) = wM dA h (sF σ 14 v) := rfl
theorem st_line (dA : Nat → ClassId) (h : Nat → Nat) (σ : MS) (v : Int32) : (wM dA h σ).set 0 (h 0, .inr (0, (flM h σ).set 25 (.int v))) = wM dA h (sF σ 15 v) := rfl
theorem st_section (dA : Nat → ClassId) (h : Nat → Nat) (σ : MS) (v : Int32) : (wM dA h σ).set 0 (h 0, .inr (0, (flM h σ).set 26 (.int v))) = wM dA h (sF σ 16 v) := rfl
theorem st_mode (dA : Nat → ClassId) (h : Nat → Nat) (σ : MS) (v : Int32) : (wM dA h σ).set 0 (h 0, .inr (0, (flM h σ).set 27 (.int v))) = wM dA h (sF σ 17 v) := rfl
theorem st_current (dA : Nat → ClassId) (h : Nat → Nat) (σ : MS) (v : Int32) : (wM dA h σ).set 0 (h 0, .inr (0, (flM h σ).set 28 (.int v))) = wM dA h (sF σ 18 v) := rfl
theorem st_address (dA : Nat → ClassId) (h : Nat → Nat) (σ : MS) (v : Int32) : (wM dA h σ).set 0 (h 0, .inr (0, (flM h σ).set 29 (.int v))) = wM dA h (sF σ 19 v) := rfl
theorem st_count (dA : Nat → ClassId) (h : Nat → Nat) (σ : MS) (v : Int32) : (wM dA h σ).set 0 (h 0, .inr (0, (flM h σ).set 30 (.int v))) = wM dA h (sF σ 20 v) := rfl
theorem st_wanted (dA : Nat → ClassId) (h : Nat → Nat) (σ : MS) (v : Int32) : (wM dA h σ).set 0 (h 0, .inr (0, (flM h σ).set 31 (.int v))) = wM dA h (sF σ 21 v) := rfl
theorem st_got (dA : Nat → ClassId) (h : Nat → Nat) (σ : MS) (v : Int32) : (wM dA h σ).set 0 (h 0, .inr (0, (flM h σ).set 32 (.int v))) = wM dA h (sF σ 22 v) := rfl
theorem st_grows (dA : Nat → ClassId) (h : Nat → Nat) (σ : MS) (v : Int32) : (wM dA h σ).set 0 (h 0, .inr (0, (flM h σ).set 33 (.int v))) = wM dA h (sF σ 23 v) := rfl
theorem st_missing (dA : Nat → ClassId) (h : Nat → Nat) (σ : MS) (v : Int32) : (wM dA h σ).set 0 (h 0, .inr (0, (flM h σ).set 34 (.int v))) = wM dA h (sF σ 24 v) := rfl
theorem st_divided (dA : Nat → ClassId) (h : Nat → Nat) (σ : MS) (v : Int32) : (wM dA h σ).set 0 (h 0, .inr (0, (flM h σ).set 35 (.int v))) = wM dA h (sF σ 25 v) := rfl
theorem st_loose (dA : Nat → ClassId) (h : Nat → Nat) (σ : MS) (v : Int32) : (wM dA h σ).set 0 (h 0, .inr (0, (flM h σ).set 36 (.int v))) = wM dA h (sF σ 26 v) := rfl
theorem st_signs (dA : Nat → ClassId) (h : Nat → Nat) (σ : MS) (v : Int32) : (wM dA h σ).set 0 (h 0, .inr (0, (flM h σ).set 38 (.int v))) = wM dA h (sF σ 27 v) := rfl
theorem st_values (dA : Nat → ClassId) (h : Nat → Nat) (σ : MS) (v : Int32) : (wM dA h σ).set 0 (h 0, .inr (0, (flM h σ).set 39 (.int v))) = wM dA h (sF σ 28 v) := rfl
theorem sa_typed (dA : Nat → ClassId) (h : Nat → Nat) (σ : MS) (i : Nat) (v : Int32) : (wM dA h σ).set 4 (h 4, .inl (dA 3, 4100, .inl (upd (σ.2 0) i v))) = wM dA h (sA σ 0 i v) := rfl
theorem sa_text (dA : Nat → ClassId) (h : Nat → Nat) (σ : MS) (i : Nat) (v : Int32) : (wM dA h σ).set 5 (h 5, .inl (dA 3, 4100, .inl (upd (σ.2 1) i v))) = wM dA h (sA σ 1 i v) := rfl
theorem sa_place (dA : Nat → ClassId) (h : Nat → Nat) (σ : MS) (i : Nat) (v : Int32) : (wM dA h σ).set 6 (h 6, .inl (dA 2, 1030, .inl (upd (σ.2 2) i v))) = wM dA h (sA σ 2 i v) := rfl
theorem sa_offset (dA : Nat → ClassId) (h : Nat → Nat) (σ : MS) (i : Nat) (v : Int32) : (wM dA h σ).set 7 (h 7, .inl (dA 2, 1030, .inl (upd (σ.2 3) i v))) = wM dA h (sA σ 3 i v) := rfl
theorem sa_bytes (dA : Nat → ClassId) (h : Nat → Nat) (σ : MS) (i : Nat) (v : Int32) : (wM dA h σ).set 8 (h 8, .inl (dA 2, 1030, .inl (upd (σ.2 4) i v))) = wM dA h (sA σ 4 i v) := rfl
theorem sa_label (dA : Nat → ClassId) (h : Nat → Nat) (σ : MS) (i : Nat) (v : Int32) : (wM dA h σ).set 9 (h 9, .inl (dA 2, 2060, .inl (upd (σ.2 5) i v))) = wM dA h (sA σ 5 i v) := rfl
theorem sa_where (dA : Nat → ClassId) (h : Nat → Nat) (σ : MS) (i : Nat) (v : Int32) : (wM dA h σ).set 10 (h 10, .inl (dA 2, 2060, .inl (upd (σ.2 6) i v))) = wM dA h (sA σ 6 i v) := rfl
theorem sa_pile (dA : Nat → ClassId) (h : Nat → Nat) (σ : MS) (i : Nat) (v : Int32) : (wM dA h σ).set 11 (h 11, .inl (dA 2, 4100, .inl (upd (σ.2 7) i v))) = wM dA h (sA σ 7 i v) := rfl
section
variable {p : Program} {l : Launch} {e : Env} {R : Room} {s : State} {m : MethodId} {args : Array Value} {below : List Frame} {meth : Method} {c : Code} {H : Heap} {locs : List Loc} {cells slots mc ms : Nat} {Q : State → Prop} {pc : Nat} {ls : Array Slot} {rest st0 : List Value} {cc : ByteArray} {nL : Nat} {rt : Option FieldType} {D : va_G} {dA : Nat → ClassId} {h : Nat → Nat} {A : Nat → Prop} {σ σ' : MS}
def CxM (p : Program) (s : State) (m : MethodId) (args : Array Value) (meth : Method) (c : Code) (cc : ByteArray) (nL : Nat) (rt : Option FieldType) (D : va_G) (dA : Nat → ClassId) (A : Nat → Prop) : Prop :=
  CxS RM p s m args meth c cc nL rt ∧ va_K D classes (tyM dA) s ∧ ∀ q : Nat, s.heap.size ≤ q → A q
def WdM (D : va_G) (dA : Nat → ClassId) (h : Nat → Nat) (A : Nat → Prop) (s : State) (σ : MS) (H : Heap) (locs : List Loc) : Prop :=
  va_P D classes (wM dA h σ) H ∧ va_D A (wM dA h σ) ∧ va_S A s.heap H locs
theorem gM (C : CxM p s m args meth c cc nL rt D dA A) (hW : WdM D dA h A s σ H locs) (k : Nat) (hk : k < 40) {idx : Nat} {v : Value} (hl : Cond.fieldLink RM idx RM (FM k).2.1 (FM k).2.2.1 ∈ lw_gd) (hR : (FM k).1 = RM) (hv : (flM h σ)[k]? = some v) (hdg : decode cc pc = .ok (.getfield idx, 3))
    (kk : W p l e R s m args below meth c H locs cells slots Q (F0 m (pc + 3) ls (v :: rest))) : W p l e R s m args below meth c H locs cells slots Q (F0 m pc ls (.ref (h 0) :: rest)) := by
  obtain ⟨⟨hx, hb, hml, hrt, hown, hT, hlk⟩, hK, hA⟩ := C
  exact va_get (D := D) (ci := 0) (C := RM) (T := FM) (N := 40) hx hb hT iM hown hK hW.1 0 rfl rfl k hk (hT _ hl) (fun x h9 => hR ▸ h9) hv hdg kk
theorem pM (C : CxM p s m args meth c cc nL rt D dA A) (hW : WdM D dA h A s σ H locs) (k j : Nat) (hk : k < 40) {idx : Nat} {v : Int32} {ty : FieldType} (hl : Cond.fieldLink RM idx RM (FM k).2.1 (FM k).2.2.1 ∈ lw_gd) (hR : (FM k).1 = RM) (hfin : (FM k).2.2.2 = false) (hd : parseFieldDescriptor (FM k).2.2.1 = some ty) (hn : narrow ty (.int v) = .int v) (hf : fits ty (.int v) = true)
    (hset : (wM dA h σ).set 0 (h 0, .inr (0, (flM h σ).set k (.int v))) = wM dA h (sF σ j v)) (hdg : decode cc pc = .ok (.putfield idx, 3))
    (kk : ∀ (H1 : Heap) (locs1 : List Loc), WdM D dA h A s (sF σ j v) H1 locs1 → W p l e R s m args below meth c H1 locs1 cells slots Q (F0 m (pc + 3) ls rest)) : W p l e R s m args below meth c H locs cells slots Q (F0 m pc ls (.int v :: .ref (h 0) :: rest)) := by
  obtain ⟨⟨hx, hb, hml, hrt, hown, hT, hlk⟩, hK, hA⟩ := C
  refine va_put (D := D) (ci := 0) (C := RM) (T := FM) (N := 40) hx hb hT iM tM tM_ok nM hown hK hW.1 hW.2.1 hW.2.2 0 rfl rfl k hk (hT _ hl) (fun x h9 => hR ▸ h9) hfin hd hn hf hk hdg (fun H1 locs1 hP hD hS => ?_)
  rw [hset] at hP hD
  exact kk H1 locs1 ⟨hP, hD, hS⟩
/-! contracts: a method that writes, one that only reads -/
def PM (D : va_G) (dA : Nat → ClassId) (h : Nat → Nat) (σ : MS) : State → Prop := fun U => va_P D classes (wM dA h σ) U.heap ∧ va_K D classes (tyM dA) U ∧ va_D (fun _ => True) (wM dA h σ)
def QM (D : va_G) (dA : Nat → ClassId) (h : Nat → Nat) (A : Nat → Prop) (σ' : MS) (ov : Option Value) : Array Value → State → Outcome → State → Prop := fun _ st oc t =>
  (oc = .returned ov ∧ va_P D classes (wM dA h σ') t.heap ∧ va_D A (wM dA h σ')) ∧ va_F A st t
def KM (l : Launch) (D : va_G) (dA : Nat → ClassId) (y : MethodName) (cc : ByteArray) (nL : Nat) (rt : Option FieldType) (rm : Room) (h : Nat → Nat) (σ : MS) (As : List Value) (ov : Option Value) (σ' : MS) : Prop :=
  ∀ sz, Met l y (.code y cc nL rt :: lw_gd) rm (va_Pc (.ref (h 0) :: As) (fun U => U.heap.size = sz ∧ PM D dA h σ U)) (QM D dA h (va_A (wM dA h σ) sz) σ' ov) 0 0 (va_A (wM dA h σ) sz)
def KR (l : Launch) (D : va_G) (dA : Nat → ClassId) (y : MethodName) (cc : ByteArray) (nL : Nat) (rt : Option FieldType) (rm : Room) (h : Nat → Nat) (σ : MS) (As : List Value) (ov : Option Value) : Prop :=
  Met l y (.code y cc nL rt :: lw_gd) rm (va_Pc (.ref (h 0) :: As) (PM D dA h σ)) (QS ov) 0 0 (fun _ => False)
theorem x_enterM {y : MethodName} {rm : Room} {As : List Value} {ov : Option Value} (hy : y.cls = RM) (hlen : (lg_sl (.ref (h 0) :: As)).length ≤ nL)
    (body : ∀ (p : Program) (e : Env) (s : State) (m : MethodId) (args : Array Value) (below : List Frame) (meth : Method) (c : Code) (A : Nat → Prop), CxM p s m args meth c cc nL rt D dA A → WdM D dA h A s σ s.heap [] → ∀ ls, lv_has ls nL (lv_args 0 (.ref (h 0) :: As)) → W p l e rm s m args below meth c s.heap [] 0 0 (MQ below (QM D dA h A σ' ov) args s 0 0 A) (F0 m 0 ls [])) : KM l D dA y cc nL rt rm h σ As ov σ' := by
  intro sz
  refine Met.ofW (cc := cc) (maxL := nL) (ret := rt) (by rw [hy]; decide +kernel) rfl ?_
  intro p e s m args below meth c s₁ B hml hv
  obtain ⟨rfl, hsz, hP, hK, hD0⟩ := hv
  have hts := atoms_spec (ws := .code y cc nL rt :: lw_gd) B.pre
  have hown : s.vm.findClass y.cls = some m.cls := findClass_of_methodNamed B.named
  rw [hy] at hown
  subst hsz
  have hl := lv_entry (.ref (h 0) :: As) (n := nL) hlen
  rw [lg_entry_eq]
  exact body p e s m _ below meth c _ ⟨⟨B.exec, B.bytes, hml, B.returns, hown, fun w h => hts w (List.mem_cons_of_mem _ h), B.notSynchronized⟩, hK, fun q h => Or.inr h⟩ ⟨hP, hD0.self, va_S.rf⟩ _ hl
theorem x_enterR {y : MethodName} {rm : Room} {As : List Value} {ov : Option Value} (hy : y.cls = RM) (hlen : (lg_sl (.ref (h 0) :: As)).length ≤ nL)
    (body : ∀ (p : Program) (e : Env) (s : State) (m : MethodId) (args : Array Value) (below : List Frame) (meth : Method) (c : Code) (A : Nat → Prop), CxM p s m args meth c cc nL rt D dA A → WdM D dA h A s σ s.heap [] → ∀ ls, lv_has ls nL (lv_args 0 (.ref (h 0) :: As)) → W p l e rm s m args below meth c s.heap [] 0 0 (MQ below (QS ov) args s 0 0 (fun _ => False)) (F0 m 0 ls [])) : KR l D dA y cc nL rt rm h σ As ov := by
  refine Met.ofW (cc := cc) (maxL := nL) (ret := rt) (by rw [hy]; decide +kernel) rfl ?_
  intro p e s m args below meth c s₁ B hml hv
  obtain ⟨rfl, hP, hK, hD0⟩ := hv
  have hts := atoms_spec (ws := .code y cc nL rt :: lw_gd) B.pre
  have hown : s.vm.findClass y.cls = some m.cls := findClass_of_methodNamed B.named
  rw [hy] at hown
  have hl := lv_entry (.ref (h 0) :: As) (n := nL) hlen
  rw [lg_entry_eq]
  exact body p e s m _ below meth c (va_A (wM dA h σ) s.heap.size) ⟨⟨B.exec, B.bytes, hml, B.returns, hown, fun w h => hts w (List.mem_cons_of_mem _ h), B.notSynchronized⟩, hK, fun q h => Or.inr h⟩ ⟨hP, hD0.self, va_S.rf⟩ _ hl
/-! ends: of writers -/
theorem x_retMv (C : CxM p s m args meth c cc nL rt D dA A) (hr : rt = none) (hW : WdM D dA h A s σ' H locs) (hdg : decode cc pc = .ok (.return_, 1)) :
    W p l e R s m args below meth c H locs 0 0 (MQ below (QM D dA h A σ' none) args s 0 0 A) (F0 m pc ls []) := by
  obtain ⟨⟨hx, hb, hml, hrt, hown, hT, hlk⟩, hK, hA⟩ := C
  exact W.vret hx hb (hrt.trans hr) (fun t ht _ => ⟨⟨rfl, by rw [ht]; exact hW.1, hW.2.1⟩, hW.2.2.F ht⟩) hW.2.2.2.2 hdg hlk
theorem x_retMi {v : Int32} (C : CxM p s m args meth c cc nL rt D dA A) (hr : rt = some .int) (hW : WdM D dA h A s σ' H locs) (hdg : decode cc pc = .ok (.ireturn, 1)) :
    W p l e R s m args below meth c H locs 0 0 (MQ below (QM D dA h A σ' (some (.int v))) args s 0 0 A) (F0 m pc ls [.int v]) := by
  obtain ⟨⟨hx, hb, hml, hrt, hown, hT, hlk⟩, hK, hA⟩ := C
  exact W.iret hx hb (hrt.trans hr) (fun t ht _ => ⟨⟨rfl, by rw [ht]; exact hW.1, hW.2.1⟩, hW.2.2.F ht⟩) hW.2.2.2.2 hdg hlk
theorem x_retMz {v : Int32} {ty : FieldType} (C : CxM p s m args meth c cc nL rt D dA A) (hr : rt = some ty) (hn : narrow ty (.int v) = .int v) (hW : WdM D dA h A s σ' H locs) (hdg : decode cc pc = .ok (.ireturn, 1)) :
    W p l e R s m args below meth c H locs 0 0 (MQ below (QM D dA h A σ' (some (.int v))) args s 0 0 A) (F0 m pc ls [.int v]) := by
  obtain ⟨⟨hx, hb, hml, hrt, hown, hT, hlk⟩, hK, hA⟩ := C
  exact W.zret hx hb (hrt.trans hr) hn (fun t ht _ => ⟨⟨rfl, by rw [ht]; exact hW.1, hW.2.1⟩, hW.2.2.F ht⟩) hW.2.2.2.2 hdg hlk
theorem x_retRl {v : Int64} (C : CxS RM p s m args meth c cc nL rt) (hr : rt = some .long) (hdg : decode cc pc = .ok (.lreturn, 1)) :
    W p l e R s m args below meth c s.heap [] 0 0 (MQ below (QS (some (.long v))) args s 0 0 (fun _ => False)) (F0 m pc ls [.long v]) := by
  obtain ⟨hx, hb, hml, hrt, hown, hT, hlk⟩ := C
  exact W.lret hx hb (hrt.trans hr) (fun t ht hW => ⟨rfl, ht⟩) (fun q h => by cases h) hdg hlk
/-- a reader is called: nothing changes -/
theorem x_callR {cc' : ByteArray} {nL' idx n : Nat} {rt' : Option FieldType} {y : MethodName} {rm : Room} {As : List Value} {ov : Option Value} (C : CxM p s m args meth c cc nL rt D dA A) (hW : WdM D dA h A s σ H locs) (hM : KR l D dA y cc' nL' rt' rm h σ As ov)
    (hG : GoodIn lw_gd (wsV RM idx RM y (.code y cc' nL' rt' :: lw_gd))) (hd : y.cls = RM ∧ y.cls ≠ "java/lang/invoke/MethodHandle" ∧ y.cls ≠ "java/lang/invoke/VarHandle" ∧ (parseMethodDescriptor y.desc).map (fun d => d.parameters.length) = some n) (hrm : rm.cells = 0 ∧ rm.slots = 0)
    (hR : rm.frames + 1 ≤ R.frames ∧ 8 + (nL' + 11) + rm.locals ≤ R.locals) (hcs : cells ≤ R.cells ∧ slots ≤ R.slots) (hn : As.length = n) (hsz : ls.size = nL) (hst : st0 = As.reverse ++ .ref (h 0) :: rest) (hc : (rest.map fun v => v.category).sum ≤ 8) (hdg : decode cc pc = .ok (.invokevirtual idx, 3))
    (kk : W p l e R s m args below meth c H locs cells slots Q (F0 m (pc + 3) ls (ov.toList ++ rest))) : W p l e R s m args below meth c H locs cells slots Q (F0 m pc ls st0) := by
  obtain ⟨⟨hx, hb, hml, hrt, hown, hT, hlk⟩, hK, hA⟩ := C
  have hrun := va_runV (l := l) (e := e) (R := R) (below := below) (meth := meth) (H := H) (locs := locs) (cells := cells) (slots := slots) (g := F0 m pc ls st0) (rest := rest) (As := As) ⟨hx, hb, hml, hown, hT⟩ hM (cwV n hT hG rfl hrm.1 hrm.2 hd hR) ⟨fun a U g mk q => ⟨q.1, q.2.1, va_K.moved (u := U) (U := U.calling g mk a) (Vm.Alike.refl U.vm) q.2.2.1, q.2.2.2⟩, va_recv hK hW.1 (ci := 0) (q0 := 0) rfl rfl, fun U hU hw => ⟨rfl, by rw [hU]; exact hW.1, va_K.moved hw.alike hK, hW.2.1.weaken (fun _ _ _ _ => trivial)⟩⟩ rfl hn hsz hst (lv_room hc) hdg hcs
  intro T hT' X
  obtain ⟨v, st₀, t, T', L, h0, X', hL, e1, e2, ⟨hq, hk⟩, st⟩ := hrun T hT' X
  cases hq
  have hLn : L = [] := by
    cases L with
    | nil => rfl
    | cons a L => exact absurd (hL a List.mem_cons_self) (fun z => z)
  subst hLn
  rw [List.append_nil] at X'
  have hh : T'.heap = H := e1.trans (hk.trans h0)
  obtain ⟨t2, a1, b1⟩ := kk T' hh X'
  exact ⟨t2, st t2 a1, b1⟩
/-- a writer is called: the world goes on -/
theorem x_callM {cc' : ByteArray} {nL' idx n : Nat} {rt' : Option FieldType} {y : MethodName} {rm : Room} {As : List Value} {ov : Option Value} (C : CxM p s m args meth c cc nL rt D dA A) (hW : WdM D dA h A s σ H locs) (hM : KM l D dA y cc' nL' rt' rm h σ As ov σ')
    (hG : GoodIn lw_gd (wsV RM idx RM y (.code y cc' nL' rt' :: lw_gd))) (hd : y.cls = RM ∧ y.cls ≠ "java/lang/invoke/MethodHandle" ∧ y.cls ≠ "java/lang/invoke/VarHandle" ∧ (parseMethodDescriptor y.desc).map (fun d => d.parameters.length) = some n) (hrm : rm.cells = 0 ∧ rm.slots = 0)
    (hR : rm.frames + 1 ≤ R.frames ∧ 8 + (nL' + 11) + rm.locals ≤ R.locals) (hcs : cells ≤ R.cells ∧ slots ≤ R.slots) (hn : As.length = n) (hsz : ls.size = nL) (hst : st0 = As.reverse ++ .ref (h 0) :: rest) (hc : (rest.map fun v => v.category).sum ≤ 8) (hdg : decode cc pc = .ok (.invokevirtual idx, 3))
    (kk : ∀ (H1 : Heap) (locs1 : List Loc), WdM D dA h A s σ' H1 locs1 → W p l e R s m args below meth c H1 locs1 cells slots Q (F0 m (pc + 3) ls (ov.toList ++ rest))) : W p l e R s m args below meth c H locs cells slots Q (F0 m pc ls st0) := by
  obtain ⟨⟨hx, hb, hml, hrt, hown, hT, hlk⟩, hK, hA⟩ := C
  have hFc : ∀ q, va_A (wM dA h σ) H.size q → A q := by
    intro q hq
    rcases hq with ⟨k, e, hk⟩ | hq
    · exact hW.2.1.2 k (q, e) hk
    · exact hA q (Nat.le_trans hW.2.2.1 hq)
  have hrun := va_runV (l := l) (e := e) (R := R) (below := below) (meth := meth) (H := H) (locs := locs) (cells := cells) (slots := slots) (g := F0 m pc ls st0) (rest := rest) (As := As) ⟨hx, hb, hml, hown, hT⟩ (hM H.size) (cwV n hT hG rfl hrm.1 hrm.2 hd hR) ⟨fun a U g mk q => ⟨q.1, q.2.1, q.2.2.1, va_K.moved (u := U) (U := U.calling g mk a) (Vm.Alike.refl U.vm) q.2.2.2.1, q.2.2.2.2⟩, va_recv hK hW.1 (ci := 0) (q0 := 0) rfl rfl, fun U hU hw => ⟨rfl, by rw [hU], by rw [hU]; exact hW.1, va_K.moved hw.alike hK, hW.2.1.weaken (fun _ _ _ _ => trivial)⟩⟩ rfl hn hsz hst (lv_room hc) hdg hcs
  refine x_call (B := fun t => va_P D classes (wM dA h σ') t.heap ∧ va_D (va_A (wM dA h σ) H.size) (wM dA h σ')) (ov := ov) (fun st v t hq => ⟨Outcome.returned.inj hq.1.1, hq.1.2, hq.2⟩) hrun hW.2.2 (fun q _ h => hFc q h) hFc (fun t H1 locs1 ht _ hB _ _ hS => ?_)
  exact kk H1 locs1 ⟨ht ▸ hB.1, hB.2.weaken (fun k q hk h => hFc _ h), hS⟩
theorem x_callMi {cc' : ByteArray} {nL' idx n : Nat} {rt' : Option FieldType} {y : MethodName} {rm : Room} {As : List Value} {r : Int32} (C : CxM p s m args meth c cc nL rt D dA A) (hW : WdM D dA h A s σ H locs) (hM : KM l D dA y cc' nL' rt' rm h σ As (some (.int r)) σ')
    (hG : GoodIn lw_gd (wsV RM idx RM y (.code y cc' nL' rt' :: lw_gd))) (hd : y.cls = RM ∧ y.cls ≠ "java/lang/invoke/MethodHandle" ∧ y.cls ≠ "java/lang/invoke/VarHandle" ∧ (parseMethodDescriptor y.desc).map (fun d => d.parameters.length) = some n) (hrm : rm.cells = 0 ∧ rm.slots = 0)
    (hR : rm.frames + 1 ≤ R.frames ∧ 8 + (nL' + 11) + rm.locals ≤ R.locals) (hcs : cells ≤ R.cells ∧ slots ≤ R.slots) (hn : As.length = n) (hsz : ls.size = nL) (hst : st0 = As.reverse ++ .ref (h 0) :: rest) (hc : (rest.map fun v => v.category).sum ≤ 8) (hdg : decode cc pc = .ok (.invokevirtual idx, 3))
    (kk : ∀ (H1 : Heap) (locs1 : List Loc), WdM D dA h A s σ' H1 locs1 → W p l e R s m args below meth c H1 locs1 cells slots Q (F0 m (pc + 3) ls (.int r :: rest))) : W p l e R s m args below meth c H locs cells slots Q (F0 m pc ls st0) :=
  x_callM C hW hM hG hd hrm hR hcs hn hsz hst hc hdg kk
theorem x_callMv {cc' : ByteArray} {nL' idx n : Nat} {rt' : Option FieldType} {y : MethodName} {rm : Room} {As : List Value}  (C : CxM p s m args meth c cc nL rt D dA A) (hW : WdM D dA h A s σ H locs) (hM : KM l D dA y cc' nL' rt' rm h σ As none σ')
    (hG : GoodIn lw_gd (wsV RM idx RM y (.code y cc' nL' rt' :: lw_gd))) (hd : y.cls = RM ∧ y.cls ≠ "java/lang/invoke/MethodHandle" ∧ y.cls ≠ "java/lang/invoke/VarHandle" ∧ (parseMethodDescriptor y.desc).map (fun d => d.parameters.length) = some n) (hrm : rm.cells = 0 ∧ rm.slots = 0)
    (hR : rm.frames + 1 ≤ R.frames ∧ 8 + (nL' + 11) + rm.locals ≤ R.locals) (hcs : cells ≤ R.cells ∧ slots ≤ R.slots) (hn : As.length = n) (hsz : ls.size = nL) (hst : st0 = As.reverse ++ .ref (h 0) :: rest) (hc : (rest.map fun v => v.category).sum ≤ 8) (hdg : decode cc pc = .ok (.invokevirtual idx, 3))
    (kk : ∀ (H1 : Heap) (locs1 : List Loc), WdM D dA h A s σ' H1 locs1 → W p l e R s m args below meth c H1 locs1 cells slots Q (F0 m (pc + 3) ls rest)) : W p l e R s m args below meth c H locs cells slots Q (F0 m pc ls st0) :=
  x_callM C hW hM hG hd hrm hR hcs hn hsz hst hc hdg kk
theorem x_callRi {cc' : ByteArray} {nL' idx n : Nat} {rt' : Option FieldType} {y : MethodName} {rm : Room} {As : List Value} {r : Int32} (C : CxM p s m args meth c cc nL rt D dA A) (hW : WdM D dA h A s σ H locs) (hM : KR l D dA y cc' nL' rt' rm h σ As (some (.int r)))
    (hG : GoodIn lw_gd (wsV RM idx RM y (.code y cc' nL' rt' :: lw_gd))) (hd : y.cls = RM ∧ y.cls ≠ "java/lang/invoke/MethodHandle" ∧ y.cls ≠ "java/lang/invoke/VarHandle" ∧ (parseMethodDescriptor y.desc).map (fun d => d.parameters.length) = some n) (hrm : rm.cells = 0 ∧ rm.slots = 0)
    (hR : rm.frames + 1 ≤ R.frames ∧ 8 + (nL' + 11) + rm.locals ≤ R.locals) (hcs : cells ≤ R.cells ∧ slots ≤ R.slots) (hn : As.length = n) (hsz : ls.size = nL) (hst : st0 = As.reverse ++ .ref (h 0) :: rest) (hc : (rest.map fun v => v.category).sum ≤ 8) (hdg : decode cc pc = .ok (.invokevirtual idx, 3))
    (kk : W p l e R s m args below meth c H locs cells slots Q (F0 m (pc + 3) ls (.int r :: rest))) : W p l e R s m args below meth c H locs cells slots Q (F0 m pc ls st0) :=
  x_callR C hW hM hG hd hrm hR hcs hn hsz hst hc hdg kk
theorem x_callRl {cc' : ByteArray} {nL' idx n : Nat} {rt' : Option FieldType} {y : MethodName} {rm : Room} {As : List Value} {r : Int64} (C : CxM p s m args meth c cc nL rt D dA A) (hW : WdM D dA h A s σ H locs) (hM : KR l D dA y cc' nL' rt' rm h σ As (some (.long r)))
    (hG : GoodIn lw_gd (wsV RM idx RM y (.code y cc' nL' rt' :: lw_gd))) (hd : y.cls = RM ∧ y.cls ≠ "java/lang/invoke/MethodHandle" ∧ y.cls ≠ "java/lang/invoke/VarHandle" ∧ (parseMethodDescriptor y.desc).map (fun d => d.parameters.length) = some n) (hrm : rm.cells = 0 ∧ rm.slots = 0)
    (hR : rm.frames + 1 ≤ R.frames ∧ 8 + (nL' + 11) + rm.locals ≤ R.locals) (hcs : cells ≤ R.cells ∧ slots ≤ R.slots) (hn : As.length = n) (hsz : ls.size = nL) (hst : st0 = As.reverse ++ .ref (h 0) :: rest) (hc : (rest.map fun v => v.category).sum ≤ 8) (hdg : decode cc pc = .ok (.invokevirtual idx, 3))
    (kk : W p l e R s m args below meth c H locs cells slots Q (F0 m (pc + 3) ls (.long r :: rest))) : W p l e R s m args below meth c H locs cells slots Q (F0 m pc ls st0) :=
  x_callR C hW hM hG hd hrm hR hcs hn hsz hst hc hdg kk
theorem x_callSi {cc' : ByteArray} {nL' idx n : Nat} {rt' : Option FieldType} {y : MethodName} {rm : Room} {As : List Value} {r : Int32} (C : CxS RM p s m args meth c cc nL rt) (hM : KS l y cc' nL' rt' rm As (some (.int r)))
    (hG : GoodIn lw_gd (wsS RM idx y (.code y cc' nL' rt' :: lw_gd))) (hd : y.cls = RM ∧ y.cls ≠ "java/lang/invoke/MethodHandle" ∧ y.cls ≠ "java/lang/invoke/VarHandle" ∧ (parseMethodDescriptor y.desc).map (fun d => d.parameters.length) = some n) (hrm : rm.cells = 0 ∧ rm.slots = 0)
    (hR : rm.frames + 1 ≤ R.frames ∧ 8 + (nL' + 11) + rm.locals ≤ R.locals) (hcs : cells ≤ R.cells ∧ slots ≤ R.slots) (hn : As.length = n) (hsz : ls.size = nL) (hst : st0 = As.reverse ++ rest) (hc : (rest.map fun v => v.category).sum ≤ 8) (hdg : decode cc pc = .ok (.invokestatic idx, 3))
    (kk : W p l e R s m args below meth c H locs cells slots Q (F0 m (pc + 3) ls (.int r :: rest))) : W p l e R s m args below meth c H locs cells slots Q (F0 m pc ls st0) :=
  x_callS C hM hG hd hrm hR hcs hn hsz hst hc hdg kk
theorem x_ldI (C : CxM p s m args meth c cc nL rt D dA A) (hW : WdM D dA h A s σ H locs) (q0 : Nat) {a n : Nat} {f : Nat → Int32} {i : Int32} (ha : (wM dA h σ)[q0]? = some (a, .inl (dA 2, n, .inl f))) (hin : inB i n = true) (hdg : decode cc pc = .ok (.iaload, 1))
    (kk : W p l e R s m args below meth c H locs cells slots Q (F0 m (pc + 1) ls (.int (f i.toNatClampNeg) :: rest))) : W p l e R s m args below meth c H locs cells slots Q (F0 m pc ls (.int i :: .ref a :: rest)) :=
  va_iald C.1.1 C.1.2.1 C.2.1 hW.1 q0 2 ha rfl (inB_in hin) hdg kk
theorem x_ldC (C : CxM p s m args meth c cc nL rt D dA A) (hW : WdM D dA h A s σ H locs) (q0 : Nat) {a n : Nat} {f : Nat → Int32} {i : Int32} (ha : (wM dA h σ)[q0]? = some (a, .inl (dA 3, n, .inl f))) (hin : inB i n = true) (hdg : decode cc pc = .ok (.caload, 1))
    (kk : W p l e R s m args below meth c H locs cells slots Q (F0 m (pc + 1) ls (.int (f i.toNatClampNeg) :: rest))) : W p l e R s m args below meth c H locs cells slots Q (F0 m pc ls (.int i :: .ref a :: rest)) :=
  va_cald C.1.1 C.1.2.1 C.2.1 hW.1 q0 3 ha rfl (inB_in hin) hdg kk
theorem x_ldB (C : CxM p s m args meth c cc nL rt D dA A) (hW : WdM D dA h A s σ H locs) (q0 : Nat) {a n : Nat} {f : Nat → Int32} {i : Int32} (ha : (wM dA h σ)[q0]? = some (a, .inl (dA 1, n, .inl f))) (hin : inB i n = true) (hdg : decode cc pc = .ok (.baload, 1))
    (kk : W p l e R s m args below meth c H locs cells slots Q (F0 m (pc + 1) ls (.int (f i.toNatClampNeg) :: rest))) : W p l e R s m args below meth c H locs cells slots Q (F0 m pc ls (.int i :: .ref a :: rest)) :=
  va_bald C.1.1 C.1.2.1 C.2.1 hW.1 q0 1 ha rfl (inB_in hin) hdg kk
theorem x_ldL (C : CxM p s m args meth c cc nL rt D dA A) (hW : WdM D dA h A s σ H locs) (q0 : Nat) {a n : Nat} {f : Nat → Int64} {i : Int32} (ha : (wM dA h σ)[q0]? = some (a, .inl (dA 0, n, .inr (.inl f)))) (hin : inB i n = true) (hdg : decode cc pc = .ok (.laload, 1))
    (kk : W p l e R s m args below meth c H locs cells slots Q (F0 m (pc + 1) ls (.long (f i.toNatClampNeg) :: rest))) : W p l e R s m args below meth c H locs cells slots Q (F0 m pc ls (.int i :: .ref a :: rest)) :=
  va_lald C.1.1 C.1.2.1 C.2.1 hW.1 q0 0 ha rfl (inB_in hin) hdg kk
theorem x_alen (C : CxM p s m args meth c cc nL rt D dA A) (hW : WdM D dA h A s σ H locs) (q0 t0 : Nat) {a : Nat} {x : vp_A} {cA : ClassId} {ty : FieldType} {v : Int32} (ha : (wM dA h σ)[q0]? = some (a, .inl (cA, x))) (ht : (tyM dA)[t0]? = some (cA, ty)) (hv : Int32.ofNat x.1 = v) (hdg : decode cc pc = .ok (.arraylength, 1))
    (kk : W p l e R s m args below meth c H locs cells slots Q (F0 m (pc + 1) ls (.int v :: rest))) : W p l e R s m args below meth c H locs cells slots Q (F0 m pc ls (.ref a :: rest)) :=
  va_alen C.1.1 C.1.2.1 C.2.1 hW.1 q0 t0 ha ht hv hdg kk
theorem x_stI (C : CxM p s m args meth c cc nL rt D dA A) (hW : WdM D dA h A s σ H locs) (q0 k : Nat) {a n : Nat} {f : Nat → Int32} {i x : Int32} (ha : (wM dA h σ)[q0]? = some (a, .inl (dA 2, n, .inl f))) (hin : inB i n = true) (hset : (wM dA h σ).set q0 (a, .inl (dA 2, n, .inl (upd f i.toNatClampNeg x))) = wM dA h (sA σ k i.toNatClampNeg x)) (hdg : decode cc pc = .ok (.iastore, 1))
    (kk : ∀ (H1 : Heap) (locs1 : List Loc), WdM D dA h A s (sA σ k i.toNatClampNeg x) H1 locs1 → W p l e R s m args below meth c H1 locs1 cells slots Q (F0 m (pc + 1) ls rest)) : W p l e R s m args below meth c H locs cells slots Q (F0 m pc ls (.int x :: .int i :: .ref a :: rest)) :=
  va_iast C.1.1 C.1.2.1 C.2.1 hW.1 hW.2.1 hW.2.2 q0 2 ha rfl (inB_in hin) hdg (fun H1 locs1 hP hD hS => kk H1 locs1 ⟨hset ▸ hP, hset ▸ hD, hS⟩)
theorem x_stC (C : CxM p s m args meth c cc nL rt D dA A) (hW : WdM D dA h A s σ H locs) (q0 k : Nat) {a n : Nat} {f : Nat → Int32} {i x : Int32} (ha : (wM dA h σ)[q0]? = some (a, .inl (dA 3, n, .inl f))) (hin : inB i n = true) (hset : (wM dA h σ).set q0 (a, .inl (dA 3, n, .inl (upd f i.toNatClampNeg (vp_nar .char x)))) = wM dA h (sA σ k i.toNatClampNeg (vp_nar .char x))) (hdg : decode cc pc = .ok (.castore, 1))
    (kk : ∀ (H1 : Heap) (locs1 : List Loc), WdM D dA h A s (sA σ k i.toNatClampNeg (vp_nar .char x)) H1 locs1 → W p l e R s m args below meth c H1 locs1 cells slots Q (F0 m (pc + 1) ls rest)) : W p l e R s m args below meth c H locs cells slots Q (F0 m pc ls (.int x :: .int i :: .ref a :: rest)) :=
  va_cast C.1.1 C.1.2.1 C.2.1 hW.1 hW.2.1 hW.2.2 q0 3 ha rfl (inB_in hin) hdg (fun H1 locs1 hP hD hS => kk H1 locs1 ⟨hset ▸ hP, hset ▸ hD, hS⟩)
end

