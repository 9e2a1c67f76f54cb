/-! A CHECK OF CODE IN ONE PASS: the bytes of an instruction, and what the machine's reader reads there -/
def mm_bs (code : ByteArray) : List Nat := code.data.toList.map UInt8.toNat
theorem mm_u1 {code : ByteArray} {p b : Nat} (h : (mm_bs code)[p]? = some b) : (Reader.u1 : Decoder Nat) code p = .ok (b, p + 1) := by
  unfold mm_bs at h
  rw [List.getElem?_map] at h
  cases hb : code.data.toList[p]? with
  | none => rw [hb] at h; cases h
  | some x =>
    rw [hb] at h
    have hx : x.toNat = b := by simpa using h
    obtain ⟨hlt, he⟩ := List.getElem?_eq_some_iff.mp hb
    have hs : p < code.size := by simpa using hlt
    have e : ∀ (C : ByteArray) (i : Nat), (Reader.u1 : Decoder Nat) C i = (if h : i < C.size then .ok (C[i].toNat, i + 1) else .error (HasTruncated.truncated i)) := fun C i => by
      show (do if h : i < C.size then do set (i + 1); Pure.pure C[i].toNat else MonadExcept.throw (HasTruncated.truncated i) : Decoder Nat) C i = _
      by_cases hi : i < C.size
      · rw [dif_pos hi, dif_pos hi]; rfl
      · rw [dif_neg hi, dif_neg hi]; rfl
    rw [e, dif_pos hs]
    have hx2 : code[p] = x := by rw [← he]; rfl
    rw [hx2, hx]
theorem mm_rd {α β : Type} {r : Decoder α} {f : α → Decoder β} {code : ByteArray} {p q : Nat} {a : α} (h : r code p = .ok (a, q)) : (r >>= f) code p = f a code q := by
  have e : (r >>= f) code p = (match r code p with | .error e => Except.error e | .ok (a, s) => f a code s) := by
    show (do let (a, s) ← r code p; f a code s : Except DecodeError (β × Nat)) = _
    cases r code p <;> rfl
  rw [e, h]
theorem mm_mp {α β : Type} {r : Decoder α} {g : α → β} {code : ByteArray} {p q : Nat} {a : α} (h : r code p = .ok (a, q)) : (g <$> r) code p = .ok (g a, q) := by
  have e : (g <$> r) = (r >>= fun a => Pure.pure (g a)) := by
    funext A p
    show (do let (a, s) ← r A p; .ok (g a, s) : Except DecodeError (β × Nat)) = (do let (a, s) ← r A p; .ok (g a, s))
    rfl
  rw [e, mm_rd h]
  rfl
theorem mm_u2 {code : ByteArray} {p a b : Nat} (h1 : (mm_bs code)[p]? = some a) (h2 : (mm_bs code)[p + 1]? = some b) : (Reader.u2 : Decoder Nat) code p = .ok (a * 256 + b, p + 2) := by
  unfold Reader.u2
  rw [mm_rd (mm_u1 h1), mm_rd (mm_u1 h2)]
  rfl
theorem mm_fin {code : ByteArray} {pc n : Nat} {i : Instr} (h : Decoder.instr pc code pc = .ok (i, pc + n)) : decode code pc = .ok (i, n) := by
  have e : decode code pc = (match Decoder.instr pc code pc with | .error e => Except.error e | .ok (i, q) => .ok (i, q - pc)) := by
    show (do let (i, q) ← Decoder.instr pc code pc; .ok (i, q - pc) : Except DecodeError (Instr × Nat)) = _
    cases Decoder.instr pc code pc <;> rfl
  rw [e, h]
  simp

/-- instructions of one byte -/
def mm_z (b : Nat) : Instr := match b with
  | 2 => .iconst (-1)
  | 3 => .iconst (0)
  | 4 => .iconst (1)
  | 5 => .iconst (2)
  | 6 => .iconst (3)
  | 7 => .iconst (4)
  | 8 => .iconst (5)
  | 9 => .lconst 0
  | 10 => .lconst 1
  | 26 => .iload_n 0
  | 27 => .iload_n 1
  | 28 => .iload_n 2
  | 29 => .iload_n 3
  | 30 => .lload_n 0
  | 31 => .lload_n 1
  | 32 => .lload_n 2
  | 33 => .lload_n 3
  | 42 => .aload_n 0
  | 43 => .aload_n 1
  | 44 => .aload_n 2
  | 45 => .aload_n 3
  | 46 => .iaload
  | 47 => .laload
  | 50 => .aaload
  | 59 => .istore_n 0
  | 60 => .istore_n 1
  | 61 => .istore_n 2
  | 62 => .istore_n 3
  | 63 => .lstore_n 0
  | 64 => .lstore_n 1
  | 65 => .lstore_n 2
  | 66 => .lstore_n 3
  | 75 => .astore_n 0
  | 76 => .astore_n 1
  | 77 => .astore_n 2
  | 78 => .astore_n 3
  | 79 => .iastore
  | 80 => .lastore
  | 87 => .pop
  | 88 => .pop2
  | 89 => .dup
  | 92 => .dup2
  | 96 => .iadd
  | 97 => .ladd
  | 100 => .isub
  | 101 => .lsub
  | 104 => .imul
  | 105 => .lmul
  | 108 => .idiv
  | 109 => .ldiv
  | 112 => .irem
  | 116 => .ineg
  | 120 => .ishl
  | 121 => .lshl
  | 122 => .ishr
  | 123 => .lshr
  | 124 => .iushr
  | 125 => .lushr
  | 126 => .iand
  | 127 => .land
  | 128 => .ior
  | 129 => .lor
  | 130 => .ixor
  | 131 => .lxor
  | 133 => .i2l
  | 136 => .l2i
  | 148 => .lcmp
  | 172 => .ireturn
  | 173 => .lreturn
  | 177 => .return_
  | 190 => .arraylength
  | 191 => .athrow
  | _ => .nop
/-- one operand byte, two, two with a sign -/
def mm_y1 (b x : Nat) : Instr := match b with
  | 18 => .ldc x
  | 21 => .iload x
  | 22 => .lload x
  | 25 => .aload x
  | 54 => .istore x
  | 55 => .lstore x
  | 58 => .astore x
  | 16 => .bipush (Reader.signed 8 x)
  | _ => .nop
def mm_y2 (b x : Nat) : Instr := match b with
  | 19 => .ldc_w x
  | 20 => .ldc2_w x
  | 178 => .getstatic x
  | 180 => .getfield x
  | 181 => .putfield x
  | 182 => .invokevirtual x
  | 183 => .invokespecial x
  | 184 => .invokestatic x
  | 187 => .new x
  | 17 => .sipush (Reader.signed 16 x)
  | 153 => .ifCond .eq (Reader.signed 16 x)
  | 154 => .ifCond .ne (Reader.signed 16 x)
  | 155 => .ifCond .lt (Reader.signed 16 x)
  | 156 => .ifCond .ge (Reader.signed 16 x)
  | 157 => .ifCond .gt (Reader.signed 16 x)
  | 158 => .ifCond .le (Reader.signed 16 x)
  | 159 => .if_icmp .eq (Reader.signed 16 x)
  | 160 => .if_icmp .ne (Reader.signed 16 x)
  | 161 => .if_icmp .lt (Reader.signed 16 x)
  | 162 => .if_icmp .ge (Reader.signed 16 x)
  | 163 => .if_icmp .gt (Reader.signed 16 x)
  | 164 => .if_icmp .le (Reader.signed 16 x)
  | 167 => .goto (Reader.signed 16 x)
  | _ => .nop
/-- the instruction that the bytes l begin with, and its length; the switches, wide and others are not read here -/
def mm_rdl (l : List Nat) : Option (Instr × Nat) := match l with
  | [] => none
  | b :: r => match mm_z b with
    | .nop => match r with
      | [] => none
      | x :: r2 => match mm_y1 b x with
        | .nop => match r2 with
          | [] => none
          | y :: _ => match mm_y2 b (x * 256 + y) with
            | .nop => bif b == 132 then some (.iinc x (Reader.signed 8 y), 3) else none
            | i => some (i, 3)
        | i => some (i, 2)
    | i => some (i, 1)
theorem mm_o46 {code : ByteArray} {pc : Nat} (h : (mm_bs code)[pc]? = some 46) : decode code pc = .ok (.iaload, 1) := mm_fin ((mm_rd (mm_u1 h)).trans rfl)
theorem mm_o47 {code : ByteArray} {pc : Nat} (h : (mm_bs code)[pc]? = some 47) : decode code pc = .ok (.laload, 1) := mm_fin ((mm_rd (mm_u1 h)).trans rfl)
theorem mm_o50 {code : ByteArray} {pc : Nat} (h : (mm_bs code)[pc]? = some 50) : decode code pc = .ok (.aaload, 1) := mm_fin ((mm_rd (mm_u1 h)).trans rfl)
theorem mm_o79 {code : ByteArray} {pc : Nat} (h : (mm_bs code)[pc]? = some 79) : decode code pc = .ok (.iastore, 1) := mm_fin ((mm_rd (mm_u1 h)).trans rfl)
theorem mm_o80 {code : ByteArray} {pc : Nat} (h : (mm_bs code)[pc]? = some 80) : decode code pc = .ok (.lastore, 1) := mm_fin ((mm_rd (mm_u1 h)).trans rfl)
theorem mm_o87 {code : ByteArray} {pc : Nat} (h : (mm_bs code)[pc]? = some 87) : decode code pc = .ok (.pop, 1) := mm_fin ((mm_rd (mm_u1 h)).trans rfl)
theorem mm_o88 {code : ByteArray} {pc : Nat} (h : (mm_bs code)[pc]? = some 88) : decode code pc = .ok (.pop2, 1) := mm_fin ((mm_rd (mm_u1 h)).trans rfl)
theorem mm_o89 {code : ByteArray} {pc : Nat} (h : (mm_bs code)[pc]? = some 89) : decode code pc = .ok (.dup, 1) := mm_fin ((mm_rd (mm_u1 h)).trans rfl)
theorem mm_o92 {code : ByteArray} {pc : Nat} (h : (mm_bs code)[pc]? = some 92) : decode code pc = .ok (.dup2, 1) := mm_fin ((mm_rd (mm_u1 h)).trans rfl)
theorem mm_o96 {code : ByteArray} {pc : Nat} (h : (mm_bs code)[pc]? = some 96) : decode code pc = .ok (.iadd, 1) := mm_fin ((mm_rd (mm_u1 h)).trans rfl)
theorem mm_o97 {code : ByteArray} {pc : Nat} (h : (mm_bs code)[pc]? = some 97) : decode code pc = .ok (.ladd, 1) := mm_fin ((mm_rd (mm_u1 h)).trans rfl)
theorem mm_o100 {code : ByteArray} {pc : Nat} (h : (mm_bs code)[pc]? = some 100) : decode code pc = .ok (.isub, 1) := mm_fin ((mm_rd (mm_u1 h)).trans rfl)
theorem mm_o101 {code : ByteArray} {pc : Nat} (h : (mm_bs code)[pc]? = some 101) : decode code pc = .ok (.lsub, 1) := mm_fin ((mm_rd (mm_u1 h)).trans rfl)
theorem mm_o104 {code : ByteArray} {pc : Nat} (h : (mm_bs code)[pc]? = some 104) : decode code pc = .ok (.imul, 1) := mm_fin ((mm_rd (mm_u1 h)).trans rfl)
theorem mm_o105 {code : ByteArray} {pc : Nat} (h : (mm_bs code)[pc]? = some 105) : decode code pc = .ok (.lmul, 1) := mm_fin ((mm_rd (mm_u1 h)).trans rfl)
theorem mm_o108 {code : ByteArray} {pc : Nat} (h : (mm_bs code)[pc]? = some 108) : decode code pc = .ok (.idiv, 1) := mm_fin ((mm_rd (mm_u1 h)).trans rfl)
theorem mm_o109 {code : ByteArray} {pc : Nat} (h : (mm_bs code)[pc]? = some 109) : decode code pc = .ok (.ldiv, 1) := mm_fin ((mm_rd (mm_u1 h)).trans rfl)
theorem mm_o112 {code : ByteArray} {pc : Nat} (h : (mm_bs code)[pc]? = some 112) : decode code pc = .ok (.irem, 1) := mm_fin ((mm_rd (mm_u1 h)).trans rfl)
theorem mm_o116 {code : ByteArray} {pc : Nat} (h : (mm_bs code)[pc]? = some 116) : decode code pc = .ok (.ineg, 1) := mm_fin ((mm_rd (mm_u1 h)).trans rfl)
theorem mm_o120 {code : ByteArray} {pc : Nat} (h : (mm_bs code)[pc]? = some 120) : decode code pc = .ok (.ishl, 1) := mm_fin ((mm_rd (mm_u1 h)).trans rfl)
theorem mm_o121 {code : ByteArray} {pc : Nat} (h : (mm_bs code)[pc]? = some 121) : decode code pc = .ok (.lshl, 1) := mm_fin ((mm_rd (mm_u1 h)).trans rfl)
theorem mm_o122 {code : ByteArray} {pc : Nat} (h : (mm_bs code)[pc]? = some 122) : decode code pc = .ok (.ishr, 1) := mm_fin ((mm_rd (mm_u1 h)).trans rfl)
theorem mm_o123 {code : ByteArray} {pc : Nat} (h : (mm_bs code)[pc]? = some 123) : decode code pc = .ok (.lshr, 1) := mm_fin ((mm_rd (mm_u1 h)).trans rfl)
theorem mm_o124 {code : ByteArray} {pc : Nat} (h : (mm_bs code)[pc]? = some 124) : decode code pc = .ok (.iushr, 1) := mm_fin ((mm_rd (mm_u1 h)).trans rfl)
theorem mm_o125 {code : ByteArray} {pc : Nat} (h : (mm_bs code)[pc]? = some 125) : decode code pc = .ok (.lushr, 1) := mm_fin ((mm_rd (mm_u1 h)).trans rfl)
theorem mm_o126 {code : ByteArray} {pc : Nat} (h : (mm_bs code)[pc]? = some 126) : decode code pc = .ok (.iand, 1) := mm_fin ((mm_rd (mm_u1 h)).trans rfl)
theorem mm_o127 {code : ByteArray} {pc : Nat} (h : (mm_bs code)[pc]? = some 127) : decode code pc = .ok (.land, 1) := mm_fin ((mm_rd (mm_u1 h)).trans rfl)
theorem mm_o128 {code : ByteArray} {pc : Nat} (h : (mm_bs code)[pc]? = some 128) : decode code pc = .ok (.ior, 1) := mm_fin ((mm_rd (mm_u1 h)).trans rfl)
theorem mm_o129 {code : ByteArray} {pc : Nat} (h : (mm_bs code)[pc]? = some 129) : decode code pc = .ok (.lor, 1) := mm_fin ((mm_rd (mm_u1 h)).trans rfl)
theorem mm_o130 {code : ByteArray} {pc : Nat} (h : (mm_bs code)[pc]? = some 130) : decode code pc = .ok (.ixor, 1) := mm_fin ((mm_rd (mm_u1 h)).trans rfl)
theorem mm_o131 {code : ByteArray} {pc : Nat} (h : (mm_bs code)[pc]? = some 131) : decode code pc = .ok (.lxor, 1) := mm_fin ((mm_rd (mm_u1 h)).trans rfl)
theorem mm_o133 {code : ByteArray} {pc : Nat} (h : (mm_bs code)[pc]? = some 133) : decode code pc = .ok (.i2l, 1) := mm_fin ((mm_rd (mm_u1 h)).trans rfl)
theorem mm_o136 {code : ByteArray} {pc : Nat} (h : (mm_bs code)[pc]? = some 136) : decode code pc = .ok (.l2i, 1) := mm_fin ((mm_rd (mm_u1 h)).trans rfl)
theorem mm_o148 {code : ByteArray} {pc : Nat} (h : (mm_bs code)[pc]? = some 148) : decode code pc = .ok (.lcmp, 1) := mm_fin ((mm_rd (mm_u1 h)).trans rfl)
theorem mm_o172 {code : ByteArray} {pc : Nat} (h : (mm_bs code)[pc]? = some 172) : decode code pc = .ok (.ireturn, 1) := mm_fin ((mm_rd (mm_u1 h)).trans rfl)
theorem mm_o173 {code : ByteArray} {pc : Nat} (h : (mm_bs code)[pc]? = some 173) : decode code pc = .ok (.lreturn, 1) := mm_fin ((mm_rd (mm_u1 h)).trans rfl)
theorem mm_o177 {code : ByteArray} {pc : Nat} (h : (mm_bs code)[pc]? = some 177) : decode code pc = .ok (.return_, 1) := mm_fin ((mm_rd (mm_u1 h)).trans rfl)
theorem mm_o190 {code : ByteArray} {pc : Nat} (h : (mm_bs code)[pc]? = some 190) : decode code pc = .ok (.arraylength, 1) := mm_fin ((mm_rd (mm_u1 h)).trans rfl)
theorem mm_o191 {code : ByteArray} {pc : Nat} (h : (mm_bs code)[pc]? = some 191) : decode code pc = .ok (.athrow, 1) := mm_fin ((mm_rd (mm_u1 h)).trans rfl)
theorem mm_o2 {code : ByteArray} {pc : Nat} (h : (mm_bs code)[pc]? = some 2) : decode code pc = .ok (.iconst (-1), 1) := mm_fin ((mm_rd (mm_u1 h)).trans rfl)
theorem mm_o3 {code : ByteArray} {pc : Nat} (h : (mm_bs code)[pc]? = some 3) : decode code pc = .ok (.iconst (0), 1) := mm_fin ((mm_rd (mm_u1 h)).trans rfl)
theorem mm_o4 {code : ByteArray} {pc : Nat} (h : (mm_bs code)[pc]? = some 4) : decode code pc = .ok (.iconst (1), 1) := mm_fin ((mm_rd (mm_u1 h)).trans rfl)
theorem mm_o5 {code : ByteArray} {pc : Nat} (h : (mm_bs code)[pc]? = some 5) : decode code pc = .ok (.iconst (2), 1) := mm_fin ((mm_rd (mm_u1 h)).trans rfl)
theorem mm_o6 {code : ByteArray} {pc : Nat} (h : (mm_bs code)[pc]? = some 6) : decode code pc = .ok (.iconst (3), 1) := mm_fin ((mm_rd (mm_u1 h)).trans rfl)
theorem mm_o7 {code : ByteArray} {pc : Nat} (h : (mm_bs code)[pc]? = some 7) : decode code pc = .ok (.iconst (4), 1) := mm_fin ((mm_rd (mm_u1 h)).trans rfl)
theorem mm_o8 {code : ByteArray} {pc : Nat} (h : (mm_bs code)[pc]? = some 8) : decode code pc = .ok (.iconst (5), 1) := mm_fin ((mm_rd (mm_u1 h)).trans rfl)
theorem mm_o9 {code : ByteArray} {pc : Nat} (h : (mm_bs code)[pc]? = some 9) : decode code pc = .ok (.lconst 0, 1) := mm_fin ((mm_rd (mm_u1 h)).trans rfl)
theorem mm_o10 {code : ByteArray} {pc : Nat} (h : (mm_bs code)[pc]? = some 10) : decode code pc = .ok (.lconst 1, 1) := mm_fin ((mm_rd (mm_u1 h)).trans rfl)
theorem mm_o26 {code : ByteArray} {pc : Nat} (h : (mm_bs code)[pc]? = some 26) : decode code pc = .ok (.iload_n 0, 1) := mm_fin ((mm_rd (mm_u1 h)).trans rfl)
theorem mm_o27 {code : ByteArray} {pc : Nat} (h : (mm_bs code)[pc]? = some 27) : decode code pc = .ok (.iload_n 1, 1) := mm_fin ((mm_rd (mm_u1 h)).trans rfl)
theorem mm_o28 {code : ByteArray} {pc : Nat} (h : (mm_bs code)[pc]? = some 28) : decode code pc = .ok (.iload_n 2, 1) := mm_fin ((mm_rd (mm_u1 h)).trans rfl)
theorem mm_o29 {code : ByteArray} {pc : Nat} (h : (mm_bs code)[pc]? = some 29) : decode code pc = .ok (.iload_n 3, 1) := mm_fin ((mm_rd (mm_u1 h)).trans rfl)
theorem mm_o30 {code : ByteArray} {pc : Nat} (h : (mm_bs code)[pc]? = some 30) : decode code pc = .ok (.lload_n 0, 1) := mm_fin ((mm_rd (mm_u1 h)).trans rfl)
theorem mm_o31 {code : ByteArray} {pc : Nat} (h : (mm_bs code)[pc]? = some 31) : decode code pc = .ok (.lload_n 1, 1) := mm_fin ((mm_rd (mm_u1 h)).trans rfl)
theorem mm_o32 {code : ByteArray} {pc : Nat} (h : (mm_bs code)[pc]? = some 32) : decode code pc = .ok (.lload_n 2, 1) := mm_fin ((mm_rd (mm_u1 h)).trans rfl)
theorem mm_o33 {code : ByteArray} {pc : Nat} (h : (mm_bs code)[pc]? = some 33) : decode code pc = .ok (.lload_n 3, 1) := mm_fin ((mm_rd (mm_u1 h)).trans rfl)
theorem mm_o42 {code : ByteArray} {pc : Nat} (h : (mm_bs code)[pc]? = some 42) : decode code pc = .ok (.aload_n 0, 1) := mm_fin ((mm_rd (mm_u1 h)).trans rfl)
theorem mm_o43 {code : ByteArray} {pc : Nat} (h : (mm_bs code)[pc]? = some 43) : decode code pc = .ok (.aload_n 1, 1) := mm_fin ((mm_rd (mm_u1 h)).trans rfl)
theorem mm_o44 {code : ByteArray} {pc : Nat} (h : (mm_bs code)[pc]? = some 44) : decode code pc = .ok (.aload_n 2, 1) := mm_fin ((mm_rd (mm_u1 h)).trans rfl)
theorem mm_o45 {code : ByteArray} {pc : Nat} (h : (mm_bs code)[pc]? = some 45) : decode code pc = .ok (.aload_n 3, 1) := mm_fin ((mm_rd (mm_u1 h)).trans rfl)
theorem mm_o59 {code : ByteArray} {pc : Nat} (h : (mm_bs code)[pc]? = some 59) : decode code pc = .ok (.istore_n 0, 1) := mm_fin ((mm_rd (mm_u1 h)).trans rfl)
theorem mm_o60 {code : ByteArray} {pc : Nat} (h : (mm_bs code)[pc]? = some 60) : decode code pc = .ok (.istore_n 1, 1) := mm_fin ((mm_rd (mm_u1 h)).trans rfl)
theorem mm_o61 {code : ByteArray} {pc : Nat} (h : (mm_bs code)[pc]? = some 61) : decode code pc = .ok (.istore_n 2, 1) := mm_fin ((mm_rd (mm_u1 h)).trans rfl)
theorem mm_o62 {code : ByteArray} {pc : Nat} (h : (mm_bs code)[pc]? = some 62) : decode code pc = .ok (.istore_n 3, 1) := mm_fin ((mm_rd (mm_u1 h)).trans rfl)
theorem mm_o63 {code : ByteArray} {pc : Nat} (h : (mm_bs code)[pc]? = some 63) : decode code pc = .ok (.lstore_n 0, 1) := mm_fin ((mm_rd (mm_u1 h)).trans rfl)
theorem mm_o64 {code : ByteArray} {pc : Nat} (h : (mm_bs code)[pc]? = some 64) : decode code pc = .ok (.lstore_n 1, 1) := mm_fin ((mm_rd (mm_u1 h)).trans rfl)
theorem mm_o65 {code : ByteArray} {pc : Nat} (h : (mm_bs code)[pc]? = some 65) : decode code pc = .ok (.lstore_n 2, 1) := mm_fin ((mm_rd (mm_u1 h)).trans rfl)
theorem mm_o66 {code : ByteArray} {pc : Nat} (h : (mm_bs code)[pc]? = some 66) : decode code pc = .ok (.lstore_n 3, 1) := mm_fin ((mm_rd (mm_u1 h)).trans rfl)
theorem mm_o75 {code : ByteArray} {pc : Nat} (h : (mm_bs code)[pc]? = some 75) : decode code pc = .ok (.astore_n 0, 1) := mm_fin ((mm_rd (mm_u1 h)).trans rfl)
theorem mm_o76 {code : ByteArray} {pc : Nat} (h : (mm_bs code)[pc]? = some 76) : decode code pc = .ok (.astore_n 1, 1) := mm_fin ((mm_rd (mm_u1 h)).trans rfl)
theorem mm_o77 {code : ByteArray} {pc : Nat} (h : (mm_bs code)[pc]? = some 77) : decode code pc = .ok (.astore_n 2, 1) := mm_fin ((mm_rd (mm_u1 h)).trans rfl)
theorem mm_o78 {code : ByteArray} {pc : Nat} (h : (mm_bs code)[pc]? = some 78) : decode code pc = .ok (.astore_n 3, 1) := mm_fin ((mm_rd (mm_u1 h)).trans rfl)
theorem mm_o18 {code : ByteArray} {pc x : Nat} (h : (mm_bs code)[pc]? = some 18) (h1 : (mm_bs code)[pc + 1]? = some x) : decode code pc = .ok (.ldc x, 2) := mm_fin ((mm_rd (mm_u1 h)).trans (show (Reader.u1 >>= fun x => pure (Instr.ldc x) : Decoder Instr) code (pc + 1) = _ from (mm_rd (mm_u1 h1)).trans rfl))
theorem mm_o21 {code : ByteArray} {pc x : Nat} (h : (mm_bs code)[pc]? = some 21) (h1 : (mm_bs code)[pc + 1]? = some x) : decode code pc = .ok (.iload x, 2) := mm_fin ((mm_rd (mm_u1 h)).trans (show (Reader.u1 >>= fun x => pure (Instr.iload x) : Decoder Instr) code (pc + 1) = _ from (mm_rd (mm_u1 h1)).trans rfl))
theorem mm_o22 {code : ByteArray} {pc x : Nat} (h : (mm_bs code)[pc]? = some 22) (h1 : (mm_bs code)[pc + 1]? = some x) : decode code pc = .ok (.lload x, 2) := mm_fin ((mm_rd (mm_u1 h)).trans (show (Reader.u1 >>= fun x => pure (Instr.lload x) : Decoder Instr) code (pc + 1) = _ from (mm_rd (mm_u1 h1)).trans rfl))
theorem mm_o25 {code : ByteArray} {pc x : Nat} (h : (mm_bs code)[pc]? = some 25) (h1 : (mm_bs code)[pc + 1]? = some x) : decode code pc = .ok (.aload x, 2) := mm_fin ((mm_rd (mm_u1 h)).trans (show (Reader.u1 >>= fun x => pure (Instr.aload x) : Decoder Instr) code (pc + 1) = _ from (mm_rd (mm_u1 h1)).trans rfl))
theorem mm_o54 {code : ByteArray} {pc x : Nat} (h : (mm_bs code)[pc]? = some 54) (h1 : (mm_bs code)[pc + 1]? = some x) : decode code pc = .ok (.istore x, 2) := mm_fin ((mm_rd (mm_u1 h)).trans (show (Reader.u1 >>= fun x => pure (Instr.istore x) : Decoder Instr) code (pc + 1) = _ from (mm_rd (mm_u1 h1)).trans rfl))
theorem mm_o55 {code : ByteArray} {pc x : Nat} (h : (mm_bs code)[pc]? = some 55) (h1 : (mm_bs code)[pc + 1]? = some x) : decode code pc = .ok (.lstore x, 2) := mm_fin ((mm_rd (mm_u1 h)).trans (show (Reader.u1 >>= fun x => pure (Instr.lstore x) : Decoder Instr) code (pc + 1) = _ from (mm_rd (mm_u1 h1)).trans rfl))
theorem mm_o58 {code : ByteArray} {pc x : Nat} (h : (mm_bs code)[pc]? = some 58) (h1 : (mm_bs code)[pc + 1]? = some x) : decode code pc = .ok (.astore x, 2) := mm_fin ((mm_rd (mm_u1 h)).trans (show (Reader.u1 >>= fun x => pure (Instr.astore x) : Decoder Instr) code (pc + 1) = _ from (mm_rd (mm_u1 h1)).trans rfl))
theorem mm_o16 {code : ByteArray} {pc x : Nat} (h : (mm_bs code)[pc]? = some 16) (h1 : (mm_bs code)[pc + 1]? = some x) : decode code pc = .ok (.bipush (Reader.signed 8 x), 2) := mm_fin ((mm_rd (mm_u1 h)).trans (show (Reader.s1 >>= fun x => pure (Instr.bipush x) : Decoder Instr) code (pc + 1) = _ from (mm_rd (mm_mp (mm_u1 h1))).trans rfl))
theorem mm_o19 {code : ByteArray} {pc x y : Nat} (h : (mm_bs code)[pc]? = some 19) (h1 : (mm_bs code)[pc + 1]? = some x) (h2 : (mm_bs code)[pc + 1 + 1]? = some y) : decode code pc = .ok (.ldc_w (x * 256 + y), 3) := mm_fin ((mm_rd (mm_u1 h)).trans (show (Reader.u2 >>= fun x => pure (Instr.ldc_w x) : Decoder Instr) code (pc + 1) = _ from (mm_rd (mm_u2 h1 h2)).trans rfl))
theorem mm_o20 {code : ByteArray} {pc x y : Nat} (h : (mm_bs code)[pc]? = some 20) (h1 : (mm_bs code)[pc + 1]? = some x) (h2 : (mm_bs code)[pc + 1 + 1]? = some y) : decode code pc = .ok (.ldc2_w (x * 256 + y), 3) := mm_fin ((mm_rd (mm_u1 h)).trans (show (Reader.u2 >>= fun x => pure (Instr.ldc2_w x) : Decoder Instr) code (pc + 1) = _ from (mm_rd (mm_u2 h1 h2)).trans rfl))
theorem mm_o178 {code : ByteArray} {pc x y : Nat} (h : (mm_bs code)[pc]? = some 178) (h1 : (mm_bs code)[pc + 1]? = some x) (h2 : (mm_bs code)[pc + 1 + 1]? = some y) : decode code pc = .ok (.getstatic (x * 256 + y), 3) := mm_fin ((mm_rd (mm_u1 h)).trans (show (Reader.u2 >>= fun x => pure (Instr.getstatic x) : Decoder Instr) code (pc + 1) = _ from (mm_rd (mm_u2 h1 h2)).trans rfl))
theorem mm_o180 {code : ByteArray} {pc x y : Nat} (h : (mm_bs code)[pc]? = some 180) (h1 : (mm_bs code)[pc + 1]? = some x) (h2 : (mm_bs code)[pc + 1 + 1]? = some y) : decode code pc = .ok (.getfield (x * 256 + y), 3) := mm_fin ((mm_rd (mm_u1 h)).trans (show (Reader.u2 >>= fun x => pure (Instr.getfield x) : Decoder Instr) code (pc + 1) = _ from (mm_rd (mm_u2 h1 h2)).trans rfl))
theorem mm_o181 {code : ByteArray} {pc x y : Nat} (h : (mm_bs code)[pc]? = some 181) (h1 : (mm_bs code)[pc + 1]? = some x) (h2 : (mm_bs code)[pc + 1 + 1]? = some y) : decode code pc = .ok (.putfield (x * 256 + y), 3) := mm_fin ((mm_rd (mm_u1 h)).trans (show (Reader.u2 >>= fun x => pure (Instr.putfield x) : Decoder Instr) code (pc + 1) = _ from (mm_rd (mm_u2 h1 h2)).trans rfl))
theorem mm_o182 {code : ByteArray} {pc x y : Nat} (h : (mm_bs code)[pc]? = some 182) (h1 : (mm_bs code)[pc + 1]? = some x) (h2 : (mm_bs code)[pc + 1 + 1]? = some y) : decode code pc = .ok (.invokevirtual (x * 256 + y), 3) := mm_fin ((mm_rd (mm_u1 h)).trans (show (Reader.u2 >>= fun x => pure (Instr.invokevirtual x) : Decoder Instr) code (pc + 1) = _ from (mm_rd (mm_u2 h1 h2)).trans rfl))
theorem mm_o183 {code : ByteArray} {pc x y : Nat} (h : (mm_bs code)[pc]? = some 183) (h1 : (mm_bs code)[pc + 1]? = some x) (h2 : (mm_bs code)[pc + 1 + 1]? = some y) : decode code pc = .ok (.invokespecial (x * 256 + y), 3) := mm_fin ((mm_rd (mm_u1 h)).trans (show (Reader.u2 >>= fun x => pure (Instr.invokespecial x) : Decoder Instr) code (pc + 1) = _ from (mm_rd (mm_u2 h1 h2)).trans rfl))
theorem mm_o184 {code : ByteArray} {pc x y : Nat} (h : (mm_bs code)[pc]? = some 184) (h1 : (mm_bs code)[pc + 1]? = some x) (h2 : (mm_bs code)[pc + 1 + 1]? = some y) : decode code pc = .ok (.invokestatic (x * 256 + y), 3) := mm_fin ((mm_rd (mm_u1 h)).trans (show (Reader.u2 >>= fun x => pure (Instr.invokestatic x) : Decoder Instr) code (pc + 1) = _ from (mm_rd (mm_u2 h1 h2)).trans rfl))
theorem mm_o187 {code : ByteArray} {pc x y : Nat} (h : (mm_bs code)[pc]? = some 187) (h1 : (mm_bs code)[pc + 1]? = some x) (h2 : (mm_bs code)[pc + 1 + 1]? = some y) : decode code pc = .ok (.new (x * 256 + y), 3) := mm_fin ((mm_rd (mm_u1 h)).trans (show (Reader.u2 >>= fun x => pure (Instr.new x) : Decoder Instr) code (pc + 1) = _ from (mm_rd (mm_u2 h1 h2)).trans rfl))
theorem mm_o17 {code : ByteArray} {pc x y : Nat} (h : (mm_bs code)[pc]? = some 17) (h1 : (mm_bs code)[pc + 1]? = some x) (h2 : (mm_bs code)[pc + 1 + 1]? = some y) : decode code pc = .ok (.sipush (Reader.signed 16 (x * 256 + y)), 3) := mm_fin ((mm_rd (mm_u1 h)).trans (show (Reader.s2 >>= fun x => pure (Instr.sipush x) : Decoder Instr) code (pc + 1) = _ from (mm_rd (mm_mp (mm_u2 h1 h2))).trans rfl))
theorem mm_o153 {code : ByteArray} {pc x y : Nat} (h : (mm_bs code)[pc]? = some 153) (h1 : (mm_bs code)[pc + 1]? = some x) (h2 : (mm_bs code)[pc + 1 + 1]? = some y) : decode code pc = .ok (.ifCond .eq (Reader.signed 16 (x * 256 + y)), 3) := mm_fin ((mm_rd (mm_u1 h)).trans (show (Reader.s2 >>= fun x => pure (Instr.ifCond .eq x) : Decoder Instr) code (pc + 1) = _ from (mm_rd (mm_mp (mm_u2 h1 h2))).trans rfl))
theorem mm_o154 {code : ByteArray} {pc x y : Nat} (h : (mm_bs code)[pc]? = some 154) (h1 : (mm_bs code)[pc + 1]? = some x) (h2 : (mm_bs code)[pc + 1 + 1]? = some y) : decode code pc = .ok (.ifCond .ne (Reader.signed 16 (x * 256 + y)), 3) := mm_fin ((mm_rd (mm_u1 h)).trans (show (Reader.s2 >>= fun x => pure (Instr.ifCond .ne x) : Decoder Instr) code (pc + 1) = _ from (mm_rd (mm_mp (mm_u2 h1 h2))).trans rfl))
theorem mm_o155 {code : ByteArray} {pc x y : Nat} (h : (mm_bs code)[pc]? = some 155) (h1 : (mm_bs code)[pc + 1]? = some x) (h2 : (mm_bs code)[pc + 1 + 1]? = some y) : decode code pc = .ok (.ifCond .lt (Reader.signed 16 (x * 256 + y)), 3) := mm_fin ((mm_rd (mm_u1 h)).trans (show (Reader.s2 >>= fun x => pure (Instr.ifCond .lt x) : Decoder Instr) code (pc + 1) = _ from (mm_rd (mm_mp (mm_u2 h1 h2))).trans rfl))
theorem mm_o156 {code : ByteArray} {pc x y : Nat} (h : (mm_bs code)[pc]? = some 156) (h1 : (mm_bs code)[pc + 1]? = some x) (h2 : (mm_bs code)[pc + 1 + 1]? = some y) : decode code pc = .ok (.ifCond .ge (Reader.signed 16 (x * 256 + y)), 3) := mm_fin ((mm_rd (mm_u1 h)).trans (show (Reader.s2 >>= fun x => pure (Instr.ifCond .ge x) : Decoder Instr) code (pc + 1) = _ from (mm_rd (mm_mp (mm_u2 h1 h2))).trans rfl))
theorem mm_o157 {code : ByteArray} {pc x y : Nat} (h : (mm_bs code)[pc]? = some 157) (h1 : (mm_bs code)[pc + 1]? = some x) (h2 : (mm_bs code)[pc + 1 + 1]? = some y) : decode code pc = .ok (.ifCond .gt (Reader.signed 16 (x * 256 + y)), 3) := mm_fin ((mm_rd (mm_u1 h)).trans (show (Reader.s2 >>= fun x => pure (Instr.ifCond .gt x) : Decoder Instr) code (pc + 1) = _ from (mm_rd (mm_mp (mm_u2 h1 h2))).trans rfl))
theorem mm_o158 {code : ByteArray} {pc x y : Nat} (h : (mm_bs code)[pc]? = some 158) (h1 : (mm_bs code)[pc + 1]? = some x) (h2 : (mm_bs code)[pc + 1 + 1]? = some y) : decode code pc = .ok (.ifCond .le (Reader.signed 16 (x * 256 + y)), 3) := mm_fin ((mm_rd (mm_u1 h)).trans (show (Reader.s2 >>= fun x => pure (Instr.ifCond .le x) : Decoder Instr) code (pc + 1) = _ from (mm_rd (mm_mp (mm_u2 h1 h2))).trans rfl))
theorem mm_o159 {code : ByteArray} {pc x y : Nat} (h : (mm_bs code)[pc]? = some 159) (h1 : (mm_bs code)[pc + 1]? = some x) (h2 : (mm_bs code)[pc + 1 + 1]? = some y) : decode code pc = .ok (.if_icmp .eq (Reader.signed 16 (x * 256 + y)), 3) := mm_fin ((mm_rd (mm_u1 h)).trans (show (Reader.s2 >>= fun x => pure (Instr.if_icmp .eq x) : Decoder Instr) code (pc + 1) = _ from (mm_rd (mm_mp (mm_u2 h1 h2))).trans rfl))
theorem mm_o160 {code : ByteArray} {pc x y : Nat} (h : (mm_bs code)[pc]? = some 160) (h1 : (mm_bs code)[pc + 1]? = some x) (h2 : (mm_bs code)[pc + 1 + 1]? = some y) : decode code pc = .ok (.if_icmp .ne (Reader.signed 16 (x * 256 + y)), 3) := mm_fin ((mm_rd (mm_u1 h)).trans (show (Reader.s2 >>= fun x => pure (Instr.if_icmp .ne x) : Decoder Instr) code (pc + 1) = _ from (mm_rd (mm_mp (mm_u2 h1 h2))).trans rfl))
theorem mm_o161 {code : ByteArray} {pc x y : Nat} (h : (mm_bs code)[pc]? = some 161) (h1 : (mm_bs code)[pc + 1]? = some x) (h2 : (mm_bs code)[pc + 1 + 1]? = some y) : decode code pc = .ok (.if_icmp .lt (Reader.signed 16 (x * 256 + y)), 3) := mm_fin ((mm_rd (mm_u1 h)).trans (show (Reader.s2 >>= fun x => pure (Instr.if_icmp .lt x) : Decoder Instr) code (pc + 1) = _ from (mm_rd (mm_mp (mm_u2 h1 h2))).trans rfl))
theorem mm_o162 {code : ByteArray} {pc x y : Nat} (h : (mm_bs code)[pc]? = some 162) (h1 : (mm_bs code)[pc + 1]? = some x) (h2 : (mm_bs code)[pc + 1 + 1]? = some y) : decode code pc = .ok (.if_icmp .ge (Reader.signed 16 (x * 256 + y)), 3) := mm_fin ((mm_rd (mm_u1 h)).trans (show (Reader.s2 >>= fun x => pure (Instr.if_icmp .ge x) : Decoder Instr) code (pc + 1) = _ from (mm_rd (mm_mp (mm_u2 h1 h2))).trans rfl))
theorem mm_o163 {code : ByteArray} {pc x y : Nat} (h : (mm_bs code)[pc]? = some 163) (h1 : (mm_bs code)[pc + 1]? = some x) (h2 : (mm_bs code)[pc + 1 + 1]? = some y) : decode code pc = .ok (.if_icmp .gt (Reader.signed 16 (x * 256 + y)), 3) := mm_fin ((mm_rd (mm_u1 h)).trans (show (Reader.s2 >>= fun x => pure (Instr.if_icmp .gt x) : Decoder Instr) code (pc + 1) = _ from (mm_rd (mm_mp (mm_u2 h1 h2))).trans rfl))
theorem mm_o164 {code : ByteArray} {pc x y : Nat} (h : (mm_bs code)[pc]? = some 164) (h1 : (mm_bs code)[pc + 1]? = some x) (h2 : (mm_bs code)[pc + 1 + 1]? = some y) : decode code pc = .ok (.if_icmp .le (Reader.signed 16 (x * 256 + y)), 3) := mm_fin ((mm_rd (mm_u1 h)).trans (show (Reader.s2 >>= fun x => pure (Instr.if_icmp .le x) : Decoder Instr) code (pc + 1) = _ from (mm_rd (mm_mp (mm_u2 h1 h2))).trans rfl))
theorem mm_o167 {code : ByteArray} {pc x y : Nat} (h : (mm_bs code)[pc]? = some 167) (h1 : (mm_bs code)[pc + 1]? = some x) (h2 : (mm_bs code)[pc + 1 + 1]? = some y) : decode code pc = .ok (.goto (Reader.signed 16 (x * 256 + y)), 3) := mm_fin ((mm_rd (mm_u1 h)).trans (show (Reader.s2 >>= fun x => pure (Instr.goto x) : Decoder Instr) code (pc + 1) = _ from (mm_rd (mm_mp (mm_u2 h1 h2))).trans rfl))
theorem mm_o132 {code : ByteArray} {pc x y : Nat} (h : (mm_bs code)[pc]? = some 132) (h1 : (mm_bs code)[pc + 1]? = some x) (h2 : (mm_bs code)[pc + 1 + 1]? = some y) : decode code pc = .ok (.iinc x (Reader.signed 8 y), 3) := mm_fin ((mm_rd (mm_u1 h)).trans (show (Reader.u1 >>= fun x => Reader.s1 >>= fun y => pure (Instr.iinc x y) : Decoder Instr) code (pc + 1) = _ from (mm_rd (mm_u1 h1)).trans ((mm_rd (mm_mp (mm_u1 h2))).trans rfl)))
theorem mm_drop_at {l r : List Nat} {n b : Nat} (h : l.drop n = b :: r) : l[n]? = some b ∧ l.drop (n + 1) = r := by
  constructor
  · have := congrArg (fun z => z[0]?) h
    simpa [List.getElem?_drop] using this
  · rw [← List.drop_drop, h]; rfl
set_option maxHeartbeats 4000000 in
theorem mm_rdl_ok {code : ByteArray} {pc n : Nat} {ins : Instr} (h : mm_rdl ((mm_bs code).drop pc) = some (ins, n)) : decode code pc = .ok (ins, n) := by
  cases hl : (mm_bs code).drop pc with
  | nil => rw [hl] at h; cases h
  | cons b r =>
    obtain ⟨h0, hr⟩ := mm_drop_at hl
    rw [hl] at h
    simp only [mm_rdl] at h
    split at h
    · cases r with
      | nil => cases h
      | cons x r2 =>
        obtain ⟨h1, hr2⟩ := mm_drop_at hr
        dsimp only at h
        split at h
        · cases r2 with
          | nil => cases h
          | cons y r3 =>
            obtain ⟨h2, hr3⟩ := mm_drop_at hr2
            dsimp only at h
            split at h
            · cases hb : b == 132 with
              | false => rw [hb] at h; cases h
              | true =>
                rw [hb] at h
                rw [beq_iff_eq] at hb
                subst hb
                cases h
                exact mm_o132 h0 h1 h2
            · rename_i hne
              cases h
              unfold mm_y2
              split
              · exact mm_o19 h0 h1 h2
              · exact mm_o20 h0 h1 h2
              · exact mm_o178 h0 h1 h2
              · exact mm_o180 h0 h1 h2
              · exact mm_o181 h0 h1 h2
              · exact mm_o182 h0 h1 h2
              · exact mm_o183 h0 h1 h2
              · exact mm_o184 h0 h1 h2
              · exact mm_o187 h0 h1 h2
              · exact mm_o17 h0 h1 h2
              · exact mm_o153 h0 h1 h2
              · exact mm_o154 h0 h1 h2
              · exact mm_o155 h0 h1 h2
              · exact mm_o156 h0 h1 h2
              · exact mm_o157 h0 h1 h2
              · exact mm_o158 h0 h1 h2
              · exact mm_o159 h0 h1 h2
              · exact mm_o160 h0 h1 h2
              · exact mm_o161 h0 h1 h2
              · exact mm_o162 h0 h1 h2
              · exact mm_o163 h0 h1 h2
              · exact mm_o164 h0 h1 h2
              · exact mm_o167 h0 h1 h2
              · exact (hne (by unfold mm_y2; split <;> first | rfl | (exfalso; simp_all))).elim
        · rename_i hne
          cases h
          unfold mm_y1
          split
          · exact mm_o18 h0 h1
          · exact mm_o21 h0 h1
          · exact mm_o22 h0 h1
          · exact mm_o25 h0 h1
          · exact mm_o54 h0 h1
          · exact mm_o55 h0 h1
          · exact mm_o58 h0 h1
          · exact mm_o16 h0 h1
          · exact (hne (by unfold mm_y1; split <;> first | rfl | (exfalso; simp_all))).elim
    · rename_i hne
      cases h
      unfold mm_z
      split
      · exact mm_o2 h0
      · exact mm_o3 h0
      · exact mm_o4 h0
      · exact mm_o5 h0
      · exact mm_o6 h0
      · exact mm_o7 h0
      · exact mm_o8 h0
      · exact mm_o9 h0
      · exact mm_o10 h0
      · exact mm_o26 h0
      · exact mm_o27 h0
      · exact mm_o28 h0
      · exact mm_o29 h0
      · exact mm_o30 h0
      · exact mm_o31 h0
      · exact mm_o32 h0
      · exact mm_o33 h0
      · exact mm_o42 h0
      · exact mm_o43 h0
      · exact mm_o44 h0
      · exact mm_o45 h0
      · exact mm_o46 h0
      · exact mm_o47 h0
      · exact mm_o50 h0
      · exact mm_o59 h0
      · exact mm_o60 h0
      · exact mm_o61 h0
      · exact mm_o62 h0
      · exact mm_o63 h0
      · exact mm_o64 h0
      · exact mm_o65 h0
      · exact mm_o66 h0
      · exact mm_o75 h0
      · exact mm_o76 h0
      · exact mm_o77 h0
      · exact mm_o78 h0
      · exact mm_o79 h0
      · exact mm_o80 h0
      · exact mm_o87 h0
      · exact mm_o88 h0
      · exact mm_o89 h0
      · exact mm_o92 h0
      · exact mm_o96 h0
      · exact mm_o97 h0
      · exact mm_o100 h0
      · exact mm_o101 h0
      · exact mm_o104 h0
      · exact mm_o105 h0
      · exact mm_o108 h0
      · exact mm_o109 h0
      · exact mm_o112 h0
      · exact mm_o116 h0
      · exact mm_o120 h0
      · exact mm_o121 h0
      · exact mm_o122 h0
      · exact mm_o123 h0
      · exact mm_o124 h0
      · exact mm_o125 h0
      · exact mm_o126 h0
      · exact mm_o127 h0
      · exact mm_o128 h0
      · exact mm_o129 h0
      · exact mm_o130 h0
      · exact mm_o131 h0
      · exact mm_o133 h0
      · exact mm_o136 h0
      · exact mm_o148 h0
      · exact mm_o172 h0
      · exact mm_o173 h0
      · exact mm_o177 h0
      · exact mm_o190 h0
      · exact mm_o191 h0
      · exact (hne (by unfold mm_z; split <;> first | rfl | (exfalso; simp_all))).elim
/-- a table of code is what the bytes say, switches and wide ones left out -/
def mm_sw : Instr → Nat → Bool
  | .tableswitch _ _ _ _, _ => true
  | .lookupswitch _ _, _ => true
  | .iinc _ _, 6 => true
  | _, _ => false
def mm_chk : List Nat → Nat → List (Nat × Instr × Nat) → Bool
  | _, _, [] => true
  | l, pos, e :: r => (decide (e.1 = pos) && (mm_sw e.2.1 e.2.2 || decide (mm_rdl l = some e.2))) && mm_chk (l.drop e.2.2) (pos + e.2.2) r
theorem mm_chk_ok {code : ByteArray} : ∀ (t : List (Nat × Instr × Nat)) (l : List Nat) (pos : Nat), (mm_bs code).drop pos = l → mm_chk l pos t = true → ∀ e ∈ t, mm_sw e.2.1 e.2.2 = true ∨ decode code e.1 = .ok e.2
  | [], l, pos, hl, h, e, he => by cases he
  | x :: r, l, pos, hl, h, e, he => by
    simp only [mm_chk, Bool.and_eq_true, decide_eq_true_eq, Bool.or_eq_true] at h
    rcases List.mem_cons.mp he with rfl | he
    · rcases h.1.2 with q | q
      · exact Or.inl q
      · refine Or.inr ?_
        rw [h.1.1]
        exact mm_rdl_ok (by rw [hl]; exact q)
    · exact mm_chk_ok r (l.drop x.2.2) (pos + x.2.2) (by rw [← List.drop_drop, hl]) h.2 e he
