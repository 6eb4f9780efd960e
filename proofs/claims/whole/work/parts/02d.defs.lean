/-! ===== what an instruction is, and where it goes on ===== -/
def zDC (cc : ByteArray) (pc : Nat) (op : Instr) (len nx : Nat) : Prop := decode cc pc = .ok (op, len) ∧ pc + len = nx
def zDJ (cc : ByteArray) (pc : Nat) (op : Int → Instr) (nx tgt : Nat) : Prop := ∃ off : Int, decode cc pc = .ok (op off, 3) ∧ (pc : Int) + off = (tgt : Int) ∧ pc + 3 = nx
/-- a number that an instruction puts -/
def zDK (cc : ByteArray) (pc : Nat) (v : Int32) (nx : Nat) : Prop := (∃ n, decode cc pc = .ok (.iconst n, 1) ∧ Int32.ofInt n = v ∧ pc + 1 = nx) ∨ (∃ n, decode cc pc = .ok (.bipush n, 2) ∧ (Int8.ofInt n).toInt32 = v ∧ pc + 2 = nx) ∨ ∃ n, decode cc pc = .ok (.sipush n, 3) ∧ (Int16.ofInt n).toInt32 = v ∧ pc + 3 = nx
/-- a local that an instruction loads (an int; a reference), stores -/
def zDLi (cc : ByteArray) (pc i nx : Nat) : Prop := (∃ k : Fin 4, decode cc pc = .ok (.iload_n k, 1) ∧ (k : Nat) = i ∧ pc + 1 = nx) ∨ (decode cc pc = .ok (.iload i, 2) ∧ pc + 2 = nx)
def zDLa (cc : ByteArray) (pc i nx : Nat) : Prop := (∃ k : Fin 4, decode cc pc = .ok (.aload_n k, 1) ∧ (k : Nat) = i ∧ pc + 1 = nx) ∨ (decode cc pc = .ok (.aload i, 2) ∧ pc + 2 = nx)
def zDSi (cc : ByteArray) (pc i nx : Nat) : Prop := (∃ k : Fin 4, decode cc pc = .ok (.istore_n k, 1) ∧ (k : Nat) = i ∧ pc + 1 = nx) ∨ (decode cc pc = .ok (.istore i, 2) ∧ pc + 2 = nx)
def zDSa (cc : ByteArray) (pc i nx : Nat) : Prop := (∃ k : Fin 4, decode cc pc = .ok (.astore_n k, 1) ∧ (k : Nat) = i ∧ pc + 1 = nx) ∨ (decode cc pc = .ok (.astore i, 2) ∧ pc + 2 = nx)
