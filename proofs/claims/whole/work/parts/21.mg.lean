theorem dX12_builtOf_0 : decode cX12_builtOf 0 = .ok (.aload_n 0, 1) := by decide +kernel
theorem dX12_builtOf_1 : decode cX12_builtOf 1 = .ok (.invokevirtual 361, 3) := by decide +kernel
theorem dX12_builtOf_4 : decode cX12_builtOf 4 = .ok (.aload_n 0, 1) := by decide +kernel
theorem dX12_builtOf_5 : decode cX12_builtOf 5 = .ok (.getfield 73, 3) := by decide +kernel
theorem dX12_builtOf_8 : decode cX12_builtOf 8 = .ok (.iconst 0, 1) := by decide +kernel
theorem dX12_builtOf_9 : decode cX12_builtOf 9 = .ok (.lconst 1, 1) := by decide +kernel
theorem dX12_builtOf_10 : decode cX12_builtOf 10 = .ok (.lastore, 1) := by decide +kernel
theorem dX12_builtOf_11 : decode cX12_builtOf 11 = .ok (.aload_n 0, 1) := by decide +kernel
theorem dX12_builtOf_12 : decode cX12_builtOf 12 = .ok (.getfield 104, 3) := by decide +kernel
theorem dX12_builtOf_15 : decode cX12_builtOf 15 = .ok (.iconst 0, 1) := by decide +kernel
theorem dX12_builtOf_16 : decode cX12_builtOf 16 = .ok (.iconst 0, 1) := by decide +kernel
theorem dX12_builtOf_17 : decode cX12_builtOf 17 = .ok (.iastore, 1) := by decide +kernel
theorem dX12_builtOf_18 : decode cX12_builtOf 18 = .ok (.iconst 1, 1) := by decide +kernel
theorem dX12_builtOf_19 : decode cX12_builtOf 19 = .ok (.istore_n 2, 1) := by decide +kernel
theorem dX12_builtOf_20 : decode cX12_builtOf 20 = .ok (.iconst 0, 1) := by decide +kernel
theorem dX12_builtOf_21 : decode cX12_builtOf 21 = .ok (.istore_n 3, 1) := by decide +kernel
theorem dX12_builtOf_22 : decode cX12_builtOf 22 = .ok (.iconst 0, 1) := by decide +kernel
theorem dX12_builtOf_23 : decode cX12_builtOf 23 = .ok (.istore 4, 2) := by decide +kernel
theorem dX12_builtOf_25 : decode cX12_builtOf 25 = .ok (.iload 4, 2) := by decide +kernel
theorem dX12_builtOf_27 : decode cX12_builtOf 27 = .ok (.aload_n 0, 1) := by decide +kernel
theorem dX12_builtOf_28 : decode cX12_builtOf 28 = .ok (.getfield 288, 3) := by decide +kernel
theorem dX12_builtOf_31 : decode cX12_builtOf 31 = .ok (.if_icmp .ge 119, 3) := by decide +kernel
theorem dX12_builtOf_34 : decode cX12_builtOf 34 = .ok (.iload 4, 2) := by decide +kernel
theorem dX12_builtOf_36 : decode cX12_builtOf 36 = .ok (.aload_n 0, 1) := by decide +kernel
theorem dX12_builtOf_37 : decode cX12_builtOf 37 = .ok (.getfield 279, 3) := by decide +kernel
theorem dX12_builtOf_40 : decode cX12_builtOf 40 = .ok (.if_icmp .ge 18, 3) := by decide +kernel
theorem dX12_builtOf_43 : decode cX12_builtOf 43 = .ok (.iload_n 1, 1) := by decide +kernel
theorem dX12_builtOf_44 : decode cX12_builtOf 44 = .ok (.iload 4, 2) := by decide +kernel
theorem dX12_builtOf_46 : decode cX12_builtOf 46 = .ok (.ishr, 1) := by decide +kernel
theorem dX12_builtOf_47 : decode cX12_builtOf 47 = .ok (.iconst 1, 1) := by decide +kernel
theorem dX12_builtOf_48 : decode cX12_builtOf 48 = .ok (.iand, 1) := by decide +kernel
theorem dX12_builtOf_49 : decode cX12_builtOf 49 = .ok (.ifCond .ne 9, 3) := by decide +kernel
theorem dX12_builtOf_52 : decode cX12_builtOf 52 = .ok (.iinc 3 1, 3) := by decide +kernel
theorem dX12_builtOf_55 : decode cX12_builtOf 55 = .ok (.goto 89, 3) := by decide +kernel
theorem dX12_builtOf_58 : decode cX12_builtOf 58 = .ok (.iconst 0, 1) := by decide +kernel
theorem dX12_builtOf_59 : decode cX12_builtOf 59 = .ok (.istore 5, 2) := by decide +kernel
theorem dX12_builtOf_61 : decode cX12_builtOf 61 = .ok (.iload 5, 2) := by decide +kernel
theorem dX12_builtOf_63 : decode cX12_builtOf 63 = .ok (.iload_n 2, 1) := by decide +kernel
theorem dX12_builtOf_64 : decode cX12_builtOf 64 = .ok (.if_icmp .ge 76, 3) := by decide +kernel
theorem dX12_builtOf_67 : decode cX12_builtOf 67 = .ok (.aload_n 0, 1) := by decide +kernel
theorem dX12_builtOf_68 : decode cX12_builtOf 68 = .ok (.getfield 73, 3) := by decide +kernel
theorem dX12_builtOf_71 : decode cX12_builtOf 71 = .ok (.iload 5, 2) := by decide +kernel
theorem dX12_builtOf_73 : decode cX12_builtOf 73 = .ok (.iload_n 2, 1) := by decide +kernel
theorem dX12_builtOf_74 : decode cX12_builtOf 74 = .ok (.iadd, 1) := by decide +kernel
theorem dX12_builtOf_75 : decode cX12_builtOf 75 = .ok (.aload_n 0, 1) := by decide +kernel
theorem dX12_builtOf_76 : decode cX12_builtOf 76 = .ok (.getfield 73, 3) := by decide +kernel
theorem dX12_builtOf_79 : decode cX12_builtOf 79 = .ok (.iload 5, 2) := by decide +kernel
theorem dX12_builtOf_81 : decode cX12_builtOf 81 = .ok (.laload, 1) := by decide +kernel
theorem dX12_builtOf_82 : decode cX12_builtOf 82 = .ok (.aload_n 0, 1) := by decide +kernel
theorem dX12_builtOf_83 : decode cX12_builtOf 83 = .ok (.getfield 57, 3) := by decide +kernel
theorem dX12_builtOf_86 : decode cX12_builtOf 86 = .ok (.iload 4, 2) := by decide +kernel
theorem dX12_builtOf_88 : decode cX12_builtOf 88 = .ok (.iaload, 1) := by decide +kernel
theorem dX12_builtOf_89 : decode cX12_builtOf 89 = .ok (.i2l, 1) := by decide +kernel
theorem dX12_builtOf_90 : decode cX12_builtOf 90 = .ok (.lmul, 1) := by decide +kernel
theorem dX12_builtOf_91 : decode cX12_builtOf 91 = .ok (.lastore, 1) := by decide +kernel
theorem dX12_builtOf_92 : decode cX12_builtOf 92 = .ok (.aload_n 0, 1) := by decide +kernel
theorem dX12_builtOf_93 : decode cX12_builtOf 93 = .ok (.getfield 104, 3) := by decide +kernel
theorem dX12_builtOf_96 : decode cX12_builtOf 96 = .ok (.iload 5, 2) := by decide +kernel
theorem dX12_builtOf_98 : decode cX12_builtOf 98 = .ok (.iload_n 2, 1) := by decide +kernel
theorem dX12_builtOf_99 : decode cX12_builtOf 99 = .ok (.iadd, 1) := by decide +kernel
theorem dX12_builtOf_100 : decode cX12_builtOf 100 = .ok (.aload_n 0, 1) := by decide +kernel
theorem dX12_builtOf_101 : decode cX12_builtOf 101 = .ok (.getfield 104, 3) := by decide +kernel
theorem dX12_builtOf_104 : decode cX12_builtOf 104 = .ok (.iload 5, 2) := by decide +kernel
theorem dX12_builtOf_106 : decode cX12_builtOf 106 = .ok (.iaload, 1) := by decide +kernel
theorem dX12_builtOf_107 : decode cX12_builtOf 107 = .ok (.iconst 1, 1) := by decide +kernel
theorem dX12_builtOf_108 : decode cX12_builtOf 108 = .ok (.iload 4, 2) := by decide +kernel
theorem dX12_builtOf_110 : decode cX12_builtOf 110 = .ok (.ishl, 1) := by decide +kernel
theorem dX12_builtOf_111 : decode cX12_builtOf 111 = .ok (.ior, 1) := by decide +kernel
theorem dX12_builtOf_112 : decode cX12_builtOf 112 = .ok (.iastore, 1) := by decide +kernel
theorem dX12_builtOf_113 : decode cX12_builtOf 113 = .ok (.aload_n 0, 1) := by decide +kernel
theorem dX12_builtOf_114 : decode cX12_builtOf 114 = .ok (.getfield 73, 3) := by decide +kernel
theorem dX12_builtOf_117 : decode cX12_builtOf 117 = .ok (.iload 5, 2) := by decide +kernel
theorem dX12_builtOf_119 : decode cX12_builtOf 119 = .ok (.dup2, 1) := by decide +kernel
theorem dX12_builtOf_120 : decode cX12_builtOf 120 = .ok (.laload, 1) := by decide +kernel
theorem dX12_builtOf_121 : decode cX12_builtOf 121 = .ok (.bipush 16, 2) := by decide +kernel
theorem dX12_builtOf_123 : decode cX12_builtOf 123 = .ok (.aload_n 0, 1) := by decide +kernel
theorem dX12_builtOf_124 : decode cX12_builtOf 124 = .ok (.getfield 57, 3) := by decide +kernel
theorem dX12_builtOf_127 : decode cX12_builtOf 127 = .ok (.iload 4, 2) := by decide +kernel
theorem dX12_builtOf_129 : decode cX12_builtOf 129 = .ok (.iaload, 1) := by decide +kernel
theorem dX12_builtOf_130 : decode cX12_builtOf 130 = .ok (.isub, 1) := by decide +kernel
theorem dX12_builtOf_131 : decode cX12_builtOf 131 = .ok (.i2l, 1) := by decide +kernel
theorem dX12_builtOf_132 : decode cX12_builtOf 132 = .ok (.lmul, 1) := by decide +kernel
theorem dX12_builtOf_133 : decode cX12_builtOf 133 = .ok (.lastore, 1) := by decide +kernel
theorem dX12_builtOf_134 : decode cX12_builtOf 134 = .ok (.iinc 5 1, 3) := by decide +kernel
theorem dX12_builtOf_137 : decode cX12_builtOf 137 = .ok (.goto (-76), 3) := by decide +kernel
theorem dX12_builtOf_140 : decode cX12_builtOf 140 = .ok (.iload_n 2, 1) := by decide +kernel
theorem dX12_builtOf_141 : decode cX12_builtOf 141 = .ok (.iconst 2, 1) := by decide +kernel
theorem dX12_builtOf_142 : decode cX12_builtOf 142 = .ok (.imul, 1) := by decide +kernel
theorem dX12_builtOf_143 : decode cX12_builtOf 143 = .ok (.istore_n 2, 1) := by decide +kernel
theorem dX12_builtOf_144 : decode cX12_builtOf 144 = .ok (.iinc 4 1, 3) := by decide +kernel
theorem dX12_builtOf_147 : decode cX12_builtOf 147 = .ok (.goto (-122), 3) := by decide +kernel
theorem dX12_builtOf_150 : decode cX12_builtOf 150 = .ok (.lconst 0, 1) := by decide +kernel
theorem dX12_builtOf_151 : decode cX12_builtOf 151 = .ok (.lstore 4, 2) := by decide +kernel
theorem dX12_builtOf_153 : decode cX12_builtOf 153 = .ok (.iconst 0, 1) := by decide +kernel
theorem dX12_builtOf_154 : decode cX12_builtOf 154 = .ok (.istore 6, 2) := by decide +kernel
theorem dX12_builtOf_156 : decode cX12_builtOf 156 = .ok (.iload 6, 2) := by decide +kernel
theorem dX12_builtOf_158 : decode cX12_builtOf 158 = .ok (.iload_n 2, 1) := by decide +kernel
theorem dX12_builtOf_159 : decode cX12_builtOf 159 = .ok (.if_icmp .ge 40, 3) := by decide +kernel
theorem dX12_builtOf_162 : decode cX12_builtOf 162 = .ok (.lload 4, 2) := by decide +kernel
theorem dX12_builtOf_164 : decode cX12_builtOf 164 = .ok (.aload_n 0, 1) := by decide +kernel
theorem dX12_builtOf_165 : decode cX12_builtOf 165 = .ok (.getfield 70, 3) := by decide +kernel
theorem dX12_builtOf_168 : decode cX12_builtOf 168 = .ok (.aload_n 0, 1) := by decide +kernel
theorem dX12_builtOf_169 : decode cX12_builtOf 169 = .ok (.getfield 104, 3) := by decide +kernel
theorem dX12_builtOf_172 : decode cX12_builtOf 172 = .ok (.iload 6, 2) := by decide +kernel
theorem dX12_builtOf_174 : decode cX12_builtOf 174 = .ok (.iaload, 1) := by decide +kernel
theorem dX12_builtOf_175 : decode cX12_builtOf 175 = .ok (.baload, 1) := by decide +kernel
theorem dX12_builtOf_176 : decode cX12_builtOf 176 = .ok (.ifCond .eq 13, 3) := by decide +kernel
theorem dX12_builtOf_179 : decode cX12_builtOf 179 = .ok (.aload_n 0, 1) := by decide +kernel
theorem dX12_builtOf_180 : decode cX12_builtOf 180 = .ok (.getfield 73, 3) := by decide +kernel
theorem dX12_builtOf_183 : decode cX12_builtOf 183 = .ok (.iload 6, 2) := by decide +kernel
theorem dX12_builtOf_185 : decode cX12_builtOf 185 = .ok (.laload, 1) := by decide +kernel
theorem dX12_builtOf_186 : decode cX12_builtOf 186 = .ok (.goto 4, 3) := by decide +kernel
theorem dX12_builtOf_189 : decode cX12_builtOf 189 = .ok (.lconst 0, 1) := by decide +kernel
theorem dX12_builtOf_190 : decode cX12_builtOf 190 = .ok (.ladd, 1) := by decide +kernel
theorem dX12_builtOf_191 : decode cX12_builtOf 191 = .ok (.lstore 4, 2) := by decide +kernel
theorem dX12_builtOf_193 : decode cX12_builtOf 193 = .ok (.iinc 6 1, 3) := by decide +kernel
theorem dX12_builtOf_196 : decode cX12_builtOf 196 = .ok (.goto (-40), 3) := by decide +kernel
theorem dX12_builtOf_199 : decode cX12_builtOf 199 = .ok (.lload 4, 2) := by decide +kernel
theorem dX12_builtOf_201 : decode cX12_builtOf 201 = .ok (.aload_n 0, 1) := by decide +kernel
theorem dX12_builtOf_202 : decode cX12_builtOf 202 = .ok (.iload_n 3, 1) := by decide +kernel
theorem dX12_builtOf_203 : decode cX12_builtOf 203 = .ok (.invokevirtual 369, 3) := by decide +kernel
theorem dX12_builtOf_206 : decode cX12_builtOf 206 = .ok (.lmul, 1) := by decide +kernel
theorem dX12_builtOf_207 : decode cX12_builtOf 207 = .ok (.lreturn, 1) := by decide +kernel
abbrev o_X12_builtOf : Type := Int64 × Int32 × Int32 × Int32 × (Nat → Int32) × (Nat → Int32) × (Nat → Int32) × (Nat → Int32) × (Nat → Int32) × (Nat → Int64)
def f_X12_builtOf_L156 (o1 : o_X12_lays) (x6 : Int32) (a8 : Nat → Int32) (a9 : Nat → Int64) (k199_12 : (Int64) → (Option o_X12_builtOf)) (r16 : (Int64) → (Int32) → (Option o_X12_builtOf)) (x14 : Int64) (x15 : Int32) : Option o_X12_builtOf :=
if x6 ≤ x15 then (
k199_12 x14) else (
gd (okx x15 32768) <|
gd (okx (a8 x15.toNatClampNeg) 32768) <|
lk (fun x19 x20 =>
lz (x20 + x19) fun x22 =>
r16 x22 (x15 + (1 : Int32))) fun k190_21 =>
if (o1.2.2.2.2.2.2 (a8 x15.toNatClampNeg).toNatClampNeg) = 0 then (
k190_21 (0 : Int64) x14) else (
gd (okx x15 32768) <|
k190_21 (a9 x15.toNatClampNeg) x14))
def f_X12_builtOf_L61 (S : wd_W) (x27 : Int32) (x29 : Int32) (k140_41 : (Nat → Int32) → (Nat → Int64) → (Option o_X12_builtOf)) (r46 : (Int32) → (Nat → Int32) → (Nat → Int64) → (Option o_X12_builtOf)) (x43 : Int32) (a44 : Nat → Int32) (a45 : Nat → Int64) : Option o_X12_builtOf :=
if x27 ≤ x43 then (
k140_41 a44 a45) else (
gd (okx x43 32768) <|
gd (okx x29 15) <|
lz ((a45 x43.toNatClampNeg) * (((S.2.2.1 16) x29.toNatClampNeg).toInt64)) fun x49 =>
gd (okx (x43 + x27) 32768) <|
lz (vp_updL a45 (x43 + x27).toNatClampNeg x49) fun a51 =>
gd (okx x43 32768) <|
lz ((a44 x43.toNatClampNeg) ||| ((1 : Int32) <<< (x29 &&& 31))) fun x53 =>
gd (okx (x43 + x27) 32768) <|
lz (upd a44 (x43 + x27).toNatClampNeg x53) fun a55 =>
gd (okx x43 32768) <|
gd (okx x29 15) <|
lz ((a51 x43.toNatClampNeg) * (((16 : Int32) - ((S.2.2.1 16) x29.toNatClampNeg)).toInt64)) fun x58 =>
gd (okx x43 32768) <|
lz (vp_updL a51 x43.toNatClampNeg x58) fun a60 =>
r46 (x43 + (1 : Int32)) a55 a60)
def f_X12_builtOf_L25 (S : wd_W) (p1 : Int32) (k150_10 : (Int32) → (Int32) → (Nat → Int32) → (Nat → Int64) → (Option o_X12_builtOf)) (r32 : (Int32) → (Int32) → (Int32) → (Nat → Int32) → (Nat → Int64) → (Option o_X12_builtOf)) (x27 : Int32) (x28 : Int32) (x29 : Int32) (a30 : Nat → Int32) (a31 : Nat → Int64) : Option o_X12_builtOf :=
if (S.1 32) ≤ x29 then (
k150_10 x27 x28 a30 a31) else (
lk (fun x33 x34 a35 a36 =>
r32 x33 x34 (x29 + (1 : Int32)) a35 a36) fun k144_37 =>
lk (lk (fun a39 a40 =>
lz (x27 * (2 : Int32)) fun x42 =>
k144_37 x42 x28 a39 a40) fun k140_41 =>
it3 (f_X12_builtOf_L61 S x27 x29 k140_41) fuel (0 : Int32) a30 a31) fun k58_38 =>
if (S.1 21) ≤ x29 then (
k58_38) else (
if ((p1 >>> (x29 &&& 31)) &&& (1 : Int32)) = 0 then (
k144_37 x27 (x28 + (1 : Int32)) a30 a31) else (
k58_38)))
def f_X12_builtOf (S : wd_W) (p1 : Int32) : Option o_X12_builtOf :=
bd (f_X12_lays (wd_o S [(38, (S.1 38)), (39, (S.1 39)), (44, (S.1 44))] [] [(17, (S.2.2.1 17)), (18, (S.2.2.1 18)), (19, (S.2.2.1 19)), (20, (S.2.2.1 20)), (31, (S.2.2.1 31))] [(21, (S.2.2.2.1 21))] [])) fun o1 =>
gd (okx (0 : Int32) 32768) <|
lz (vp_updL (S.2.2.2.1 21) (0 : Int32).toNatClampNeg (1 : Int64)) fun a3 =>
gd (okx (0 : Int32) 32768) <|
lz (upd (S.2.2.1 31) (0 : Int32).toNatClampNeg (0 : Int32)) fun a5 =>
lk (fun x6 x7 a8 a9 =>
lk (fun x11 =>
bd (f_X12_power x7) fun o13 =>
some (x11 * o13, o1.1, o1.2.1, o1.2.2.1, o1.2.2.2.1, o1.2.2.2.2.1, o1.2.2.2.2.2.1, o1.2.2.2.2.2.2, a8, a9)) fun k199_12 =>
it2 (f_X12_builtOf_L156 o1 x6 a8 a9 k199_12) fuel (0 : Int64) (0 : Int32)) fun k150_10 =>
it5 (f_X12_builtOf_L25 S p1 k150_10) fuel (1 : Int32) (0 : Int32) (0 : Int32) a5 a3
set_option maxRecDepth 100000 in
set_option maxHeartbeats 4000000 in
theorem c_X12_builtOf (l : Launch) (D : va_G) (q g : Nat → Nat) (cy : Nat → ClassId) (z : (Nat → Nat) × (Nat → Nat) × Nat) (S : wd_W) (p1 : Int32) (o : o_X12_builtOf) (hf : f_X12_builtOf S p1 = some o) : MX layM l yX12_builtOf cX12_builtOf 7 (some .long) ({ frames := 5, cells := 0, slots := 0, locals := 115 } : Room) D q g cy z [.ref (q 0), .int p1] S false (some (.long o.1)) (wd_o S [(38, o.2.1), (39, o.2.2.1), (44, o.2.2.2.1)] [] [(17, o.2.2.2.2.1), (18, o.2.2.2.2.2.1), (19, o.2.2.2.2.2.2.1), (20, o.2.2.2.2.2.2.2.1), (31, o.2.2.2.2.2.2.2.2.1)] [(21, o.2.2.2.2.2.2.2.2.2)] []) 0 0 := by
  refine mx_of (own := RX12) (lc := [(0, .ref (q 0)), (1, .int p1)]) (by decide +kernel) rfl layM_ok (Nat.le_of_ble_eq_true rfl) rfl ?_
  intro X hXl hXq hXz hC hQ
  subst hXl; subst hXq; subst hXz
  unfold f_X12_builtOf at hf
  refine go_keys (L1 := [(38, (S.1 38)), (39, (S.1 39)), (44, (S.1 44))]) (L2 := []) (L3 := [(17, (S.2.2.1 17)), (18, (S.2.2.1 18)), (19, (S.2.2.1 19)), (20, (S.2.2.1 20)), (31, (S.2.2.1 31))]) (L4 := [(21, (S.2.2.2.1 21))]) (L5 := []) [38, 39, 44] [] [17, 18, 19, 20, 31] [21] [] rfl rfl rfl rfl rfl ?_
  refine go_aload_n (pc' := 1) hC dX12_builtOf_0 rfl rfl ?_
  obtain ⟨o1, ho1, hf⟩ := bd_e hf
  refine go_callV1 (pc' := 4) (As := []) (st := []) (st' := []) (L1' := [(38, o1.1), (39, o1.2.1), (44, o1.2.2.1)]) (L2' := []) (L3' := [(17, o1.2.2.2.1), (18, o1.2.2.2.2.1), (19, o1.2.2.2.2.2.1), (20, o1.2.2.2.2.2.2), (31, (S.2.2.1 31))]) (L4' := [(21, (S.2.2.2.1 21))]) (L5' := []) (cells' := 0) (slots' := 0)  (b := 0) hC dX12_builtOf_1 ⟨mw_860, mw_863, mw_5, yd_yX12_lays, yp_yX12_lays, Nat.le_of_ble_eq_true rfl, Nat.le_of_ble_eq_true rfl, (Nat.le_of_ble_eq_true rfl), (Nat.le_of_ble_eq_true rfl)⟩ mw_861 mw_862 layM_0 rfl rfl rfl (Nat.le_of_ble_eq_true rfl) (c_X12_lays (x_l X) (x_D X) (x_q X) g (x_cy X) (x_z X) _  o1 ho1) rfl rfl rfl rfl rfl rfl rfl rfl rfl rfl rfl rfl rfl rfl ?_
  refine go_aload_n (pc' := 5) hC dX12_builtOf_4 rfl rfl ?_
  refine go_getq (pc' := 8) hC 0 45 layM_0 rfl rfl inlX12 (Nat.le_of_ble_eq_true rfl) mw_202 rfl dX12_builtOf_5 rfl ?_
  refine go_iconst (pc' := 9) hC dX12_builtOf_8 ki_0 rfl ?_
  refine go_lconst (pc' := 10) hC dX12_builtOf_9 kl_1 rfl ?_
  obtain ⟨h2, hf⟩ := gd_e hf
  refine go_last (f := (S.2.2.2.1 21)) (pc' := 11) hC 21 layM_21 rfl rfl dX12_builtOf_10 (okx_in h2) rfl rfl (fun a3 ha L4' hL => ?_)
  have hf := lz_r ha hf
  clear ha
  obtain rfl : L4' = [(21, a3)] := hL.symm
  refine go_aload_n (pc' := 12) hC dX12_builtOf_11 rfl rfl ?_
  refine go_getq (pc' := 15) hC 0 59 layM_0 rfl rfl inlX12 (Nat.le_of_ble_eq_true rfl) mw_212 rfl dX12_builtOf_12 rfl ?_
  refine go_iconst (pc' := 16) hC dX12_builtOf_15 ki_0 rfl ?_
  refine go_iconst (pc' := 17) hC dX12_builtOf_16 ki_0 rfl ?_
  obtain ⟨h4, hf⟩ := gd_e hf
  refine go_iast (f := (S.2.2.1 31)) (pc' := 18) hC 31 layM_31 rfl rfl dX12_builtOf_17 (okx_in h4) rfl rfl (fun a5 ha L3' hL => ?_)
  have hf := lz_r ha hf
  clear ha
  obtain rfl : L3' = [(17, o1.2.2.2.1), (18, o1.2.2.2.2.1), (19, o1.2.2.2.2.2.1), (20, o1.2.2.2.2.2.2), (31, a5)] := hL.symm
  refine go_iconst (pc' := 19) hC dX12_builtOf_18 ki_1 rfl ?_
  refine go_istore_n (lc' := [(0, .ref (x_q X 0)), (1, .int p1), (2, .int (1 : Int32))]) (pc' := 20) hC dX12_builtOf_19 (Nat.le_of_ble_eq_true rfl) rfl rfl ?_
  refine go_iconst (pc' := 21) hC dX12_builtOf_20 ki_0 rfl ?_
  refine go_istore_n (lc' := [(0, .ref (x_q X 0)), (1, .int p1), (2, .int (1 : Int32)), (3, .int (0 : Int32))]) (pc' := 22) hC dX12_builtOf_21 (Nat.le_of_ble_eq_true rfl) rfl rfl ?_
  refine go_iconst (pc' := 23) hC dX12_builtOf_22 ki_0 rfl ?_
  refine go_istore (lc' := [(0, .ref (x_q X 0)), (1, .int p1), (2, .int (1 : Int32)), (3, .int (0 : Int32)), (4, .int (0 : Int32))]) (pc' := 25) hC dX12_builtOf_23 (Nat.le_of_ble_eq_true rfl) rfl rfl ?_
  obtain ⟨k150_10, hk150_10, hf⟩ := lk_e4 hf
  have jk150_10 : ∀ (x6 : Int32) (x7 : Int32) (a8 : Nat → Int32) (a9 : Nat → Int64), k150_10 x6 x7 a8 a9 = some o → Go X layM S 150 [(0, .ref (x_q X 0)), (2, .int x6), (3, .int x7)] [] g [(38, o1.1), (39, o1.2.1), (44, o1.2.2.1)] [] [(17, o1.2.2.2.1), (18, o1.2.2.2.2.1), (19, o1.2.2.2.2.2.1), (20, o1.2.2.2.2.2.2), (31, a8)] [(21, a9)] [] 0 0 := by
    intro x6 x7 a8 a9 hf
    have hf := hk150_10 x6 x7 a8 a9 hf
    clear hk150_10
    refine go_lconst (pc' := 151) hC dX12_builtOf_150 kl_0 rfl ?_
    refine go_lstore (lc' := [(0, .ref (x_q X 0)), (2, .int x6), (3, .int x7), (4, .long (0 : Int64))]) (pc' := 153) hC dX12_builtOf_151 (Nat.le_of_ble_eq_true rfl) rfl rfl ?_
    refine go_iconst (pc' := 154) hC dX12_builtOf_153 ki_0 rfl ?_
    refine go_istore (lc' := [(0, .ref (x_q X 0)), (2, .int x6), (3, .int x7), (4, .long (0 : Int64)), (6, .int (0 : Int32))]) (pc' := 156) hC dX12_builtOf_154 (Nat.le_of_ble_eq_true rfl) rfl rfl ?_
    obtain ⟨k199_12, hk199_12, hf⟩ := lk_e1 hf
    have jk199_12 : ∀ (x11 : Int64), k199_12 x11 = some o → Go X layM S 199 [(0, .ref (x_q X 0)), (3, .int x7), (4, .long x11)] [] g [(38, o1.1), (39, o1.2.1), (44, o1.2.2.1)] [] [(17, o1.2.2.2.1), (18, o1.2.2.2.2.1), (19, o1.2.2.2.2.2.1), (20, o1.2.2.2.2.2.2), (31, a8)] [(21, a9)] [] 0 0 := by
      intro x11 hf
      have hf := hk199_12 x11 hf
      clear hk199_12
      refine go_lload (pc' := 201) hC dX12_builtOf_199 rfl rfl ?_
      refine go_aload_n (pc' := 202) hC dX12_builtOf_201 rfl rfl ?_
      refine go_iload_n (pc' := 203) hC dX12_builtOf_202 rfl rfl ?_
      obtain ⟨o13, ho13, hf⟩ := bd_e hf
      refine go_callV0 (pc' := 206) (As := [.int x7]) (st := [.long x11]) (st' := [.long o13, .long x11])    (b := 0) hC dX12_builtOf_203 ⟨mw_923, mw_926, mw_5, yd_yX12_power, yp_yX12_power, Nat.le_of_ble_eq_true rfl, Nat.le_of_ble_eq_true rfl, (Nat.le_of_ble_eq_true rfl), (Nat.le_of_ble_eq_true rfl)⟩ mw_924 mw_925 layM_0 rfl rfl rfl (Nat.le_of_ble_eq_true rfl) (c_X12_power (x_l X) (x_D X) (x_q X) g (x_cy X) (x_z X) _ x7 o13 ho13) rfl rfl ?_
      refine go_lmul (pc' := 207) hC dX12_builtOf_206 rfl ?_
      obtain rfl := Option.some.inj hf
      exact go_lret hC hQ dX12_builtOf_207 rfl rfl rfl (fun _ => rfl) rfl rfl
    clear hk199_12
    have l156_26 : ∀ (nn : Nat) (x14 : Int64) (x15 : Int32), it2 (f_X12_builtOf_L156 o1 x6 a8 a9 k199_12) nn x14 x15 = some o → Go X layM S 156 [(0, .ref (x_q X 0)), (2, .int x6), (3, .int x7), (4, .long x14), (6, .int x15)] [] g [(38, o1.1), (39, o1.2.1), (44, o1.2.2.1)] [] [(17, o1.2.2.2.1), (18, o1.2.2.2.2.1), (19, o1.2.2.2.2.2.1), (20, o1.2.2.2.2.2.2), (31, a8)] [(21, a9)] [] 0 0 := by
      intro nn
      induction nn with
      | zero =>
        intro x14 x15 hf
        exact none_no hf
      | succ nn ih =>
        intro x14 x15 hf
        have hf : f_X12_builtOf_L156 o1 x6 a8 a9 k199_12 (it2 (f_X12_builtOf_L156 o1 x6 a8 a9 k199_12) nn) x14 x15 = some o := hf
        generalize it2 (f_X12_builtOf_L156 o1 x6 a8 a9 k199_12) nn = r16 at ih hf
        unfold f_X12_builtOf_L156 at hf
        refine go_iload (pc' := 158) hC dX12_builtOf_156 rfl rfl ?_
        refine go_iload_n (pc' := 159) hC dX12_builtOf_158 rfl rfl ?_
        refine go_icmp_ge (tgt := 199) (pc' := 162) hC dX12_builtOf_159 (by decide) rfl (fun h25 => ?_) (fun h25 => ?_)
        · have hf := ite_t h25 hf
          refine go_sub [0, 3, 4] rfl ?_
          exact jk199_12 x14 hf
        · have hf := ite_f h25 hf
          refine go_lload (pc' := 164) hC dX12_builtOf_162 rfl rfl ?_
          refine go_aload_n (pc' := 165) hC dX12_builtOf_164 rfl rfl ?_
          refine go_getq (pc' := 168) hC 0 43 layM_0 rfl rfl inlX12 (Nat.le_of_ble_eq_true rfl) mw_201 rfl dX12_builtOf_165 rfl ?_
          refine go_aload_n (pc' := 169) hC dX12_builtOf_168 rfl rfl ?_
          refine go_getq (pc' := 172) hC 0 59 layM_0 rfl rfl inlX12 (Nat.le_of_ble_eq_true rfl) mw_212 rfl dX12_builtOf_169 rfl ?_
          refine go_iload (pc' := 174) hC dX12_builtOf_172 rfl rfl ?_
          obtain ⟨h17, hf⟩ := gd_e hf
          refine go_iald (f := a8) (pc' := 175) hC 31 layM_31 rfl rfl dX12_builtOf_174 (okx_in h17) rfl ?_
          obtain ⟨h18, hf⟩ := gd_e hf
          refine go_zald (f := o1.2.2.2.2.2.2) (pc' := 176) hC 20 layM_20 rfl rfl dX12_builtOf_175 (okx_in h18) rfl ?_
          obtain ⟨k190_21, hk190_21, hf⟩ := lk_e2 hf
          have jk190_21 : ∀ (x19 : Int64) (x20 : Int64), k190_21 x19 x20 = some o → Go X layM S 190 [(0, .ref (x_q X 0)), (2, .int x6), (3, .int x7), (6, .int x15)] [.long x19, .long x20] g [(38, o1.1), (39, o1.2.1), (44, o1.2.2.1)] [] [(17, o1.2.2.2.1), (18, o1.2.2.2.2.1), (19, o1.2.2.2.2.2.1), (20, o1.2.2.2.2.2.2), (31, a8)] [(21, a9)] [] 0 0 := by
            intro x19 x20 hf
            have hf := hk190_21 x19 x20 hf
            clear hk190_21
            refine go_ladd (pc' := 191) hC dX12_builtOf_190 rfl ?_
            refine go_namel (fun x22 hx => ?_)
            have hf := lz_r hx hf
            clear hx
            refine go_lstore (lc' := [(0, .ref (x_q X 0)), (2, .int x6), (3, .int x7), (4, .long x22), (6, .int x15)]) (pc' := 193) hC dX12_builtOf_191 (Nat.le_of_ble_eq_true rfl) rfl rfl ?_
            refine go_iinc (lc' := [(0, .ref (x_q X 0)), (2, .int x6), (3, .int x7), (4, .long x22), (6, .int (x15 + (1 : Int32)))]) (pc' := 196) hC dX12_builtOf_193 rfl ki_1 (Nat.le_of_ble_eq_true rfl) rfl rfl ?_
            refine go_goto (tgt := 156) hC dX12_builtOf_196 (by decide) ?_
            exact ih x22 (x15 + (1 : Int32)) hf
          clear hk190_21
          refine go_if_eq (tgt := 189) (pc' := 179) hC dX12_builtOf_176 (by decide) rfl (fun h24 => ?_) (fun h24 => ?_)
          · have hf := ite_t h24 hf
            refine go_lconst (pc' := 190) hC dX12_builtOf_189 kl_0 rfl ?_
            refine go_sub [0, 2, 3, 6] rfl ?_
            exact jk190_21 (0 : Int64) x14 hf
          · have hf := ite_f h24 hf
            refine go_aload_n (pc' := 180) hC dX12_builtOf_179 rfl rfl ?_
            refine go_getq (pc' := 183) hC 0 45 layM_0 rfl rfl inlX12 (Nat.le_of_ble_eq_true rfl) mw_202 rfl dX12_builtOf_180 rfl ?_
            refine go_iload (pc' := 185) hC dX12_builtOf_183 rfl rfl ?_
            obtain ⟨h23, hf⟩ := gd_e hf
            refine go_lald (f := a9) (pc' := 186) hC 21 layM_21 rfl rfl dX12_builtOf_185 (okx_in h23) rfl ?_
            refine go_goto (tgt := 190) hC dX12_builtOf_186 (by decide) ?_
            refine go_sub [0, 2, 3, 6] rfl ?_
            exact jk190_21 (a9 x15.toNatClampNeg) x14 hf
    exact l156_26 fuel (0 : Int64) (0 : Int32) hf
  clear hk150_10
  have l25_66 : ∀ (nn : Nat) (x27 : Int32) (x28 : Int32) (x29 : Int32) (a30 : Nat → Int32) (a31 : Nat → Int64), it5 (f_X12_builtOf_L25 S p1 k150_10) nn x27 x28 x29 a30 a31 = some o → Go X layM S 25 [(0, .ref (x_q X 0)), (1, .int p1), (2, .int x27), (3, .int x28), (4, .int x29)] [] g [(38, o1.1), (39, o1.2.1), (44, o1.2.2.1)] [] [(17, o1.2.2.2.1), (18, o1.2.2.2.2.1), (19, o1.2.2.2.2.2.1), (20, o1.2.2.2.2.2.2), (31, a30)] [(21, a31)] [] 0 0 := by
    intro nn
    induction nn with
    | zero =>
      intro x27 x28 x29 a30 a31 hf
      exact none_no hf
    | succ nn ih =>
      intro x27 x28 x29 a30 a31 hf
      have hf : f_X12_builtOf_L25 S p1 k150_10 (it5 (f_X12_builtOf_L25 S p1 k150_10) nn) x27 x28 x29 a30 a31 = some o := hf
      generalize it5 (f_X12_builtOf_L25 S p1 k150_10) nn = r32 at ih hf
      unfold f_X12_builtOf_L25 at hf
      refine go_iload (pc' := 27) hC dX12_builtOf_25 rfl rfl ?_
      refine go_aload_n (pc' := 28) hC dX12_builtOf_27 rfl rfl ?_
      refine go_geti (v := (S.1 32)) (pc' := 31) hC 0 32 layM_0 rfl rfl inlX12 (Nat.le_of_ble_eq_true rfl) mw_250 rfl dX12_builtOf_28 rfl rfl ?_
      refine go_icmp_ge (tgt := 150) (pc' := 34) hC dX12_builtOf_31 (by decide) rfl (fun h65 => ?_) (fun h65 => ?_)
      · have hf := ite_t h65 hf
        refine go_sub [0, 2, 3] rfl ?_
        exact jk150_10 x27 x28 a30 a31 hf
      · have hf := ite_f h65 hf
        refine go_iload (pc' := 36) hC dX12_builtOf_34 rfl rfl ?_
        refine go_aload_n (pc' := 37) hC dX12_builtOf_36 rfl rfl ?_
        refine go_geti (v := (S.1 21)) (pc' := 40) hC 0 21 layM_0 rfl rfl inlX12 (Nat.le_of_ble_eq_true rfl) mw_247 rfl dX12_builtOf_37 rfl rfl ?_
        obtain ⟨k144_37, hk144_37, hf⟩ := lk_e4 hf
        have jk144_37 : ∀ (x33 : Int32) (x34 : Int32) (a35 : Nat → Int32) (a36 : Nat → Int64), k144_37 x33 x34 a35 a36 = some o → Go X layM S 144 [(0, .ref (x_q X 0)), (1, .int p1), (2, .int x33), (3, .int x34), (4, .int x29)] [] g [(38, o1.1), (39, o1.2.1), (44, o1.2.2.1)] [] [(17, o1.2.2.2.1), (18, o1.2.2.2.2.1), (19, o1.2.2.2.2.2.1), (20, o1.2.2.2.2.2.2), (31, a35)] [(21, a36)] [] 0 0 := by
          intro x33 x34 a35 a36 hf
          have hf := hk144_37 x33 x34 a35 a36 hf
          clear hk144_37
          refine go_iinc (lc' := [(0, .ref (x_q X 0)), (1, .int p1), (2, .int x33), (3, .int x34), (4, .int (x29 + (1 : Int32)))]) (pc' := 147) hC dX12_builtOf_144 rfl ki_1 (Nat.le_of_ble_eq_true rfl) rfl rfl ?_
          refine go_goto (tgt := 25) hC dX12_builtOf_147 (by decide) ?_
          exact ih x33 x34 (x29 + (1 : Int32)) a35 a36 hf
        clear hk144_37
        obtain ⟨k58_38, hk58_38, hf⟩ := lk_e0 hf
        have jk58_38 : ∀ (_ : Unit), k58_38 = some o → Go X layM S 58 [(0, .ref (x_q X 0)), (1, .int p1), (2, .int x27), (3, .int x28), (4, .int x29)] [] g [(38, o1.1), (39, o1.2.1), (44, o1.2.2.1)] [] [(17, o1.2.2.2.1), (18, o1.2.2.2.2.1), (19, o1.2.2.2.2.2.1), (20, o1.2.2.2.2.2.2), (31, a30)] [(21, a31)] [] 0 0 := by
          intro _ hf
          have hf := hk58_38 hf
          clear hk58_38
          refine go_iconst (pc' := 59) hC dX12_builtOf_58 ki_0 rfl ?_
          refine go_istore (lc' := [(0, .ref (x_q X 0)), (1, .int p1), (2, .int x27), (3, .int x28), (4, .int x29), (5, .int (0 : Int32))]) (pc' := 61) hC dX12_builtOf_59 (Nat.le_of_ble_eq_true rfl) rfl rfl ?_
          obtain ⟨k140_41, hk140_41, hf⟩ := lk_e2 hf
          have jk140_41 : ∀ (a39 : Nat → Int32) (a40 : Nat → Int64), k140_41 a39 a40 = some o → Go X layM S 140 [(0, .ref (x_q X 0)), (1, .int p1), (2, .int x27), (3, .int x28), (4, .int x29)] [] g [(38, o1.1), (39, o1.2.1), (44, o1.2.2.1)] [] [(17, o1.2.2.2.1), (18, o1.2.2.2.2.1), (19, o1.2.2.2.2.2.1), (20, o1.2.2.2.2.2.2), (31, a39)] [(21, a40)] [] 0 0 := by
            intro a39 a40 hf
            have hf := hk140_41 a39 a40 hf
            clear hk140_41
            refine go_iload_n (pc' := 141) hC dX12_builtOf_140 rfl rfl ?_
            refine go_iconst (pc' := 142) hC dX12_builtOf_141 ki_2 rfl ?_
            refine go_imul (pc' := 143) hC dX12_builtOf_142 rfl ?_
            refine go_namei (fun x42 hx => ?_)
            have hf := lz_r hx hf
            clear hx
            refine go_istore_n (lc' := [(0, .ref (x_q X 0)), (1, .int p1), (2, .int x42), (3, .int x28), (4, .int x29)]) (pc' := 144) hC dX12_builtOf_143 (Nat.le_of_ble_eq_true rfl) rfl rfl ?_
            exact jk144_37 x42 x28 a39 a40 hf
          clear hk140_41
          have l61_62 : ∀ (nn : Nat) (x43 : Int32) (a44 : Nat → Int32) (a45 : Nat → Int64), it3 (f_X12_builtOf_L61 S x27 x29 k140_41) nn x43 a44 a45 = some o → Go X layM S 61 [(0, .ref (x_q X 0)), (1, .int p1), (2, .int x27), (3, .int x28), (4, .int x29), (5, .int x43)] [] g [(38, o1.1), (39, o1.2.1), (44, o1.2.2.1)] [] [(17, o1.2.2.2.1), (18, o1.2.2.2.2.1), (19, o1.2.2.2.2.2.1), (20, o1.2.2.2.2.2.2), (31, a44)] [(21, a45)] [] 0 0 := by
            intro nn
            induction nn with
            | zero =>
              intro x43 a44 a45 hf
              exact none_no hf
            | succ nn ih =>
              intro x43 a44 a45 hf
              have hf : f_X12_builtOf_L61 S x27 x29 k140_41 (it3 (f_X12_builtOf_L61 S x27 x29 k140_41) nn) x43 a44 a45 = some o := hf
              generalize it3 (f_X12_builtOf_L61 S x27 x29 k140_41) nn = r46 at ih hf
              unfold f_X12_builtOf_L61 at hf
              refine go_iload (pc' := 63) hC dX12_builtOf_61 rfl rfl ?_
              refine go_iload_n (pc' := 64) hC dX12_builtOf_63 rfl rfl ?_
              refine go_icmp_ge (tgt := 140) (pc' := 67) hC dX12_builtOf_64 (by decide) rfl (fun h61 => ?_) (fun h61 => ?_)
              · have hf := ite_t h61 hf
                refine go_sub [0, 1, 2, 3, 4] rfl ?_
                exact jk140_41 a44 a45 hf
              · have hf := ite_f h61 hf
                refine go_aload_n (pc' := 68) hC dX12_builtOf_67 rfl rfl ?_
                refine go_getq (pc' := 71) hC 0 45 layM_0 rfl rfl inlX12 (Nat.le_of_ble_eq_true rfl) mw_202 rfl dX12_builtOf_68 rfl ?_
                refine go_iload (pc' := 73) hC dX12_builtOf_71 rfl rfl ?_
                refine go_iload_n (pc' := 74) hC dX12_builtOf_73 rfl rfl ?_
                refine go_iadd (pc' := 75) hC dX12_builtOf_74 rfl ?_
                refine go_aload_n (pc' := 76) hC dX12_builtOf_75 rfl rfl ?_
                refine go_getq (pc' := 79) hC 0 45 layM_0 rfl rfl inlX12 (Nat.le_of_ble_eq_true rfl) mw_202 rfl dX12_builtOf_76 rfl ?_
                refine go_iload (pc' := 81) hC dX12_builtOf_79 rfl rfl ?_
                obtain ⟨h47, hf⟩ := gd_e hf
                refine go_lald (f := a45) (pc' := 82) hC 21 layM_21 rfl rfl dX12_builtOf_81 (okx_in h47) rfl ?_
                refine go_aload_n (pc' := 83) hC dX12_builtOf_82 rfl rfl ?_
                refine go_getq (pc' := 86) hC 0 33 layM_0 rfl rfl inlX12 (Nat.le_of_ble_eq_true rfl) mw_196 rfl dX12_builtOf_83 rfl ?_
                refine go_iload (pc' := 88) hC dX12_builtOf_86 rfl rfl ?_
                obtain ⟨h48, hf⟩ := gd_e hf
                refine go_iald (f := (S.2.2.1 16)) (pc' := 89) hC 16 layM_16 rfl rfl dX12_builtOf_88 (okx_in h48) rfl ?_
                refine go_i2l (pc' := 90) hC dX12_builtOf_89 rfl ?_
                refine go_lmul (pc' := 91) hC dX12_builtOf_90 rfl ?_
                refine go_namel (fun x49 hx => ?_)
                have hf := lz_r hx hf
                clear hx
                obtain ⟨h50, hf⟩ := gd_e hf
                refine go_last (f := a45) (pc' := 92) hC 21 layM_21 rfl rfl dX12_builtOf_91 (okx_in h50) rfl rfl (fun a51 ha L4' hL => ?_)
                have hf := lz_r ha hf
                clear ha
                obtain rfl : L4' = [(21, a51)] := hL.symm
                refine go_aload_n (pc' := 93) hC dX12_builtOf_92 rfl rfl ?_
                refine go_getq (pc' := 96) hC 0 59 layM_0 rfl rfl inlX12 (Nat.le_of_ble_eq_true rfl) mw_212 rfl dX12_builtOf_93 rfl ?_
                refine go_iload (pc' := 98) hC dX12_builtOf_96 rfl rfl ?_
                refine go_iload_n (pc' := 99) hC dX12_builtOf_98 rfl rfl ?_
                refine go_iadd (pc' := 100) hC dX12_builtOf_99 rfl ?_
                refine go_aload_n (pc' := 101) hC dX12_builtOf_100 rfl rfl ?_
                refine go_getq (pc' := 104) hC 0 59 layM_0 rfl rfl inlX12 (Nat.le_of_ble_eq_true rfl) mw_212 rfl dX12_builtOf_101 rfl ?_
                refine go_iload (pc' := 106) hC dX12_builtOf_104 rfl rfl ?_
                obtain ⟨h52, hf⟩ := gd_e hf
                refine go_iald (f := a44) (pc' := 107) hC 31 layM_31 rfl rfl dX12_builtOf_106 (okx_in h52) rfl ?_
                refine go_iconst (pc' := 108) hC dX12_builtOf_107 ki_1 rfl ?_
                refine go_iload (pc' := 110) hC dX12_builtOf_108 rfl rfl ?_
                refine go_ishl (pc' := 111) hC dX12_builtOf_110 rfl ?_
                refine go_ior (pc' := 112) hC dX12_builtOf_111 rfl ?_
                refine go_namei (fun x53 hx => ?_)
                have hf := lz_r hx hf
                clear hx
                obtain ⟨h54, hf⟩ := gd_e hf
                refine go_iast (f := a44) (pc' := 113) hC 31 layM_31 rfl rfl dX12_builtOf_112 (okx_in h54) rfl rfl (fun a55 ha L3' hL => ?_)
                have hf := lz_r ha hf
                clear ha
                obtain rfl : L3' = [(17, o1.2.2.2.1), (18, o1.2.2.2.2.1), (19, o1.2.2.2.2.2.1), (20, o1.2.2.2.2.2.2), (31, a55)] := hL.symm
                refine go_aload_n (pc' := 114) hC dX12_builtOf_113 rfl rfl ?_
                refine go_getq (pc' := 117) hC 0 45 layM_0 rfl rfl inlX12 (Nat.le_of_ble_eq_true rfl) mw_202 rfl dX12_builtOf_114 rfl ?_
                refine go_iload (pc' := 119) hC dX12_builtOf_117 rfl rfl ?_
                refine go_dup2 (pc' := 120) hC dX12_builtOf_119 rfl rfl rfl ?_
                obtain ⟨h56, hf⟩ := gd_e hf
                refine go_lald (f := a51) (pc' := 121) hC 21 layM_21 rfl rfl dX12_builtOf_120 (okx_in h56) rfl ?_
                refine go_bipush (pc' := 123) hC dX12_builtOf_121 kb_16 rfl ?_
                refine go_aload_n (pc' := 124) hC dX12_builtOf_123 rfl rfl ?_
                refine go_getq (pc' := 127) hC 0 33 layM_0 rfl rfl inlX12 (Nat.le_of_ble_eq_true rfl) mw_196 rfl dX12_builtOf_124 rfl ?_
                refine go_iload (pc' := 129) hC dX12_builtOf_127 rfl rfl ?_
                obtain ⟨h57, hf⟩ := gd_e hf
                refine go_iald (f := (S.2.2.1 16)) (pc' := 130) hC 16 layM_16 rfl rfl dX12_builtOf_129 (okx_in h57) rfl ?_
                refine go_isub (pc' := 131) hC dX12_builtOf_130 rfl ?_
                refine go_i2l (pc' := 132) hC dX12_builtOf_131 rfl ?_
                refine go_lmul (pc' := 133) hC dX12_builtOf_132 rfl ?_
                refine go_namel (fun x58 hx => ?_)
                have hf := lz_r hx hf
                clear hx
                obtain ⟨h59, hf⟩ := gd_e hf
                refine go_last (f := a51) (pc' := 134) hC 21 layM_21 rfl rfl dX12_builtOf_133 (okx_in h59) rfl rfl (fun a60 ha L4' hL => ?_)
                have hf := lz_r ha hf
                clear ha
                obtain rfl : L4' = [(21, a60)] := hL.symm
                refine go_iinc (lc' := [(0, .ref (x_q X 0)), (1, .int p1), (2, .int x27), (3, .int x28), (4, .int x29), (5, .int (x43 + (1 : Int32)))]) (pc' := 137) hC dX12_builtOf_134 rfl ki_1 (Nat.le_of_ble_eq_true rfl) rfl rfl ?_
                refine go_goto (tgt := 61) hC dX12_builtOf_137 (by decide) ?_
                exact ih (x43 + (1 : Int32)) a55 a60 hf
          exact l61_62 fuel (0 : Int32) a30 a31 hf
        clear hk58_38
        refine go_icmp_ge (tgt := 58) (pc' := 43) hC dX12_builtOf_40 (by decide) rfl (fun h64 => ?_) (fun h64 => ?_)
        · have hf := ite_t h64 hf
          exact jk58_38 () hf
        · have hf := ite_f h64 hf
          refine go_iload_n (pc' := 44) hC dX12_builtOf_43 rfl rfl ?_
          refine go_iload (pc' := 46) hC dX12_builtOf_44 rfl rfl ?_
          refine go_ishr (pc' := 47) hC dX12_builtOf_46 rfl ?_
          refine go_iconst (pc' := 48) hC dX12_builtOf_47 ki_1 rfl ?_
          refine go_iand (pc' := 49) hC dX12_builtOf_48 rfl ?_
          refine go_if_ne (tgt := 58) (pc' := 52) hC dX12_builtOf_49 (by decide) rfl (fun h63 => ?_) (fun h63 => ?_)
          · have hf := ite_f h63 hf
            exact jk58_38 () hf
          · have hf := ite_t h63 hf
            refine go_iinc (lc' := [(0, .ref (x_q X 0)), (1, .int p1), (2, .int x27), (3, .int (x28 + (1 : Int32))), (4, .int x29)]) (pc' := 55) hC dX12_builtOf_52 rfl ki_1 (Nat.le_of_ble_eq_true rfl) rfl rfl ?_
            refine go_goto (tgt := 144) hC dX12_builtOf_55 (by decide) ?_
            exact jk144_37 x27 (x28 + (1 : Int32)) a30 a31 hf
  exact l25_66 fuel (1 : Int32) (0 : Int32) (0 : Int32) a5 a3 hf
theorem dX12_judge_0 : decode cX12_judge 0 = .ok (.iload_n 1, 1) := by decide +kernel
theorem dX12_judge_1 : decode cX12_judge 1 = .ok (.i2l, 1) := by decide +kernel
theorem dX12_judge_2 : decode cX12_judge 2 = .ok (.lconst 0, 1) := by decide +kernel
theorem dX12_judge_3 : decode cX12_judge 3 = .ok (.iconst 1, 1) := by decide +kernel
theorem dX12_judge_4 : decode cX12_judge 4 = .ok (.aload_n 0, 1) := by decide +kernel
theorem dX12_judge_5 : decode cX12_judge 5 = .ok (.getfield 279, 3) := by decide +kernel
theorem dX12_judge_8 : decode cX12_judge 8 = .ok (.ishl, 1) := by decide +kernel
theorem dX12_judge_9 : decode cX12_judge 9 = .ok (.iconst 1, 1) := by decide +kernel
theorem dX12_judge_10 : decode cX12_judge 10 = .ok (.isub, 1) := by decide +kernel
theorem dX12_judge_11 : decode cX12_judge 11 = .ok (.i2l, 1) := by decide +kernel
theorem dX12_judge_12 : decode cX12_judge 12 = .ok (.invokestatic 218, 3) := by decide +kernel
theorem dX12_judge_15 : decode cX12_judge 15 = .ok (.ifCond .eq 11, 3) := by decide +kernel
theorem dX12_judge_18 : decode cX12_judge 18 = .ok (.aload_n 0, 1) := by decide +kernel
theorem dX12_judge_19 : decode cX12_judge 19 = .ok (.iload_n 1, 1) := by decide +kernel
theorem dX12_judge_20 : decode cX12_judge 20 = .ok (.invokevirtual 436, 3) := by decide +kernel
theorem dX12_judge_23 : decode cX12_judge 23 = .ok (.goto 6, 3) := by decide +kernel
theorem dX12_judge_26 : decode cX12_judge 26 = .ok (.ldc2_w 373, 3) := by decide +kernel
theorem dX12_judge_29 : decode cX12_judge 29 = .ok (.lreturn, 1) := by decide +kernel
abbrev o_X12_judge : Type := Int64 × Int32 × Int32 × Int32 × (Nat → Int32) × (Nat → Int32) × (Nat → Int32) × (Nat → Int32) × (Nat → Int32) × (Nat → Int64)
def f_X12_judge (S : wd_W) (p1 : Int32) : Option o_X12_judge :=
bd (f_X12_in p1.toInt64 (0 : Int64) ((((1 : Int32) <<< ((S.1 21) &&& 31)) - (1 : Int32)).toInt64)) fun o1 =>
if o1 = 0 then (
some ((-1 : Int64), (S.1 38), (S.1 39), (S.1 44), (S.2.2.1 17), (S.2.2.1 18), (S.2.2.1 19), (S.2.2.1 20), (S.2.2.1 31), (S.2.2.2.1 21))) else (
bd (f_X12_builtOf (wd_o S [(38, (S.1 38)), (39, (S.1 39)), (44, (S.1 44))] [] [(17, (S.2.2.1 17)), (18, (S.2.2.1 18)), (19, (S.2.2.1 19)), (20, (S.2.2.1 20)), (31, (S.2.2.1 31))] [(21, (S.2.2.2.1 21))] []) p1) fun o2 =>
some (o2.1, o2.2.1, o2.2.2.1, o2.2.2.2.1, o2.2.2.2.2.1, o2.2.2.2.2.2.1, o2.2.2.2.2.2.2.1, o2.2.2.2.2.2.2.2.1, o2.2.2.2.2.2.2.2.2.1, o2.2.2.2.2.2.2.2.2.2))
set_option maxRecDepth 100000 in
set_option maxHeartbeats 4000000 in
theorem c_X12_judge (l : Launch) (D : va_G) (q g : Nat → Nat) (cy : Nat → ClassId) (z : (Nat → Nat) × (Nat → Nat) × Nat) (S : wd_W) (p1 : Int32) (o : o_X12_judge) (hf : f_X12_judge S p1 = some o) : MX layM l yX12_judge cX12_judge 2 (some .long) ({ frames := 6, cells := 0, slots := 0, locals := 141 } : Room) D q g cy z [.ref (q 0), .int p1] S false (some (.long o.1)) (wd_o S [(38, o.2.1), (39, o.2.2.1), (44, o.2.2.2.1)] [] [(17, o.2.2.2.2.1), (18, o.2.2.2.2.2.1), (19, o.2.2.2.2.2.2.1), (20, o.2.2.2.2.2.2.2.1), (31, o.2.2.2.2.2.2.2.2.1)] [(21, o.2.2.2.2.2.2.2.2.2)] []) 0 0 := by
  refine mx_of (own := RX12) (lc := [(0, .ref (q 0)), (1, .int p1)]) (by decide +kernel) rfl layM_ok (Nat.le_of_ble_eq_true rfl) rfl ?_
  intro X hXl hXq hXz hC hQ
  subst hXl; subst hXq; subst hXz
  unfold f_X12_judge at hf
  refine go_keys (L1 := [(38, (S.1 38)), (39, (S.1 39)), (44, (S.1 44))]) (L2 := []) (L3 := [(17, (S.2.2.1 17)), (18, (S.2.2.1 18)), (19, (S.2.2.1 19)), (20, (S.2.2.1 20)), (31, (S.2.2.1 31))]) (L4 := [(21, (S.2.2.2.1 21))]) (L5 := []) [38, 39, 44] [] [17, 18, 19, 20, 31] [21] [] rfl rfl rfl rfl rfl ?_
  refine go_iload_n (pc' := 1) hC dX12_judge_0 rfl rfl ?_
  refine go_i2l (pc' := 2) hC dX12_judge_1 rfl ?_
  refine go_lconst (pc' := 3) hC dX12_judge_2 kl_0 rfl ?_
  refine go_iconst (pc' := 4) hC dX12_judge_3 ki_1 rfl ?_
  refine go_aload_n (pc' := 5) hC dX12_judge_4 rfl rfl ?_
  refine go_geti (v := (S.1 21)) (pc' := 8) hC 0 21 layM_0 rfl rfl inlX12 (Nat.le_of_ble_eq_true rfl) mw_247 rfl dX12_judge_5 rfl rfl ?_
  refine go_ishl (pc' := 9) hC dX12_judge_8 rfl ?_
  refine go_iconst (pc' := 10) hC dX12_judge_9 ki_1 rfl ?_
  refine go_isub (pc' := 11) hC dX12_judge_10 rfl ?_
  refine go_i2l (pc' := 12) hC dX12_judge_11 rfl ?_
  obtain ⟨o1, ho1, hf⟩ := bd_e hf
  refine go_callS0 (pc' := 15) (As := [.long p1.toInt64, .long (0 : Int64), .long ((((1 : Int32) <<< ((S.1 21) &&& 31)) - (1 : Int32)).toInt64)]) (st := []) (st' := [.int o1])    hC dX12_judge_12 ⟨mw_525, mw_527, mw_5, yd_yX12_in, yp_yX12_in, Nat.le_of_ble_eq_true rfl, Nat.le_of_ble_eq_true rfl, (Nat.le_of_ble_eq_true rfl), (Nat.le_of_ble_eq_true rfl)⟩ mw_526 rfl rfl (Nat.le_of_ble_eq_true rfl) (c_X12_in (x_l X) (x_D X) (x_q X) g (x_cy X) (x_z X) _ p1.toInt64 (0 : Int64) ((((1 : Int32) <<< ((S.1 21) &&& 31)) - (1 : Int32)).toInt64) o1 ho1) rfl rfl ?_
  refine go_if_eq (tgt := 26) (pc' := 18) hC dX12_judge_15 (by decide) rfl (fun h3 => ?_) (fun h3 => ?_)
  · have hf := ite_t h3 hf
    refine go_ldc2 (pc' := 29) hC dX12_judge_26 mw_922 rfl ?_
    obtain rfl := Option.some.inj hf
    exact go_lret hC hQ dX12_judge_29 rfl rfl rfl (fun _ => rfl) rfl rfl
  · have hf := ite_f h3 hf
    refine go_aload_n (pc' := 19) hC dX12_judge_18 rfl rfl ?_
    refine go_iload_n (pc' := 20) hC dX12_judge_19 rfl rfl ?_
    obtain ⟨o2, ho2, hf⟩ := bd_e hf
    refine go_callV1 (pc' := 23) (As := [.int p1]) (st := []) (st' := [.long o2.1]) (L1' := [(38, o2.2.1), (39, o2.2.2.1), (44, o2.2.2.2.1)]) (L2' := []) (L3' := [(17, o2.2.2.2.2.1), (18, o2.2.2.2.2.2.1), (19, o2.2.2.2.2.2.2.1), (20, o2.2.2.2.2.2.2.2.1), (31, o2.2.2.2.2.2.2.2.2.1)]) (L4' := [(21, o2.2.2.2.2.2.2.2.2.2)]) (L5' := []) (cells' := 0) (slots' := 0)  (b := 0) hC dX12_judge_20 ⟨mw_1205, mw_1208, mw_5, yd_yX12_builtOf, yp_yX12_builtOf, Nat.le_of_ble_eq_true rfl, Nat.le_of_ble_eq_true rfl, (Nat.le_of_ble_eq_true rfl), (Nat.le_of_ble_eq_true rfl)⟩ mw_1206 mw_1207 layM_0 rfl rfl rfl (Nat.le_of_ble_eq_true rfl) (c_X12_builtOf (x_l X) (x_D X) (x_q X) g (x_cy X) (x_z X) _ p1 o2 ho2) rfl rfl rfl rfl rfl rfl rfl rfl rfl rfl rfl rfl rfl rfl ?_
    refine go_goto (tgt := 29) hC dX12_judge_23 (by decide) ?_
    obtain rfl := Option.some.inj hf
    exact go_lret hC hQ dX12_judge_29 rfl rfl rfl (fun _ => rfl) rfl rfl
theorem dX12_lengthOf_0 : decode cX12_lengthOf 0 = .ok (.iconst 0, 1) := by decide +kernel
theorem dX12_lengthOf_1 : decode cX12_lengthOf 1 = .ok (.istore_n 2, 1) := by decide +kernel
theorem dX12_lengthOf_2 : decode cX12_lengthOf 2 = .ok (.iconst 0, 1) := by decide +kernel
theorem dX12_lengthOf_3 : decode cX12_lengthOf 3 = .ok (.istore_n 3, 1) := by decide +kernel
theorem dX12_lengthOf_4 : decode cX12_lengthOf 4 = .ok (.iload_n 3, 1) := by decide +kernel
theorem dX12_lengthOf_5 : decode cX12_lengthOf 5 = .ok (.aload_n 0, 1) := by decide +kernel
theorem dX12_lengthOf_6 : decode cX12_lengthOf 6 = .ok (.getfield 279, 3) := by decide +kernel
theorem dX12_lengthOf_9 : decode cX12_lengthOf 9 = .ok (.if_icmp .ge 31, 3) := by decide +kernel
theorem dX12_lengthOf_12 : decode cX12_lengthOf 12 = .ok (.iload_n 2, 1) := by decide +kernel
theorem dX12_lengthOf_13 : decode cX12_lengthOf 13 = .ok (.iload_n 1, 1) := by decide +kernel
theorem dX12_lengthOf_14 : decode cX12_lengthOf 14 = .ok (.iload_n 3, 1) := by decide +kernel
theorem dX12_lengthOf_15 : decode cX12_lengthOf 15 = .ok (.ishr, 1) := by decide +kernel
theorem dX12_lengthOf_16 : decode cX12_lengthOf 16 = .ok (.iconst 1, 1) := by decide +kernel
theorem dX12_lengthOf_17 : decode cX12_lengthOf 17 = .ok (.iand, 1) := by decide +kernel
theorem dX12_lengthOf_18 : decode cX12_lengthOf 18 = .ok (.iconst 1, 1) := by decide +kernel
theorem dX12_lengthOf_19 : decode cX12_lengthOf 19 = .ok (.if_icmp .ne 12, 3) := by decide +kernel
theorem dX12_lengthOf_22 : decode cX12_lengthOf 22 = .ok (.aload_n 0, 1) := by decide +kernel
theorem dX12_lengthOf_23 : decode cX12_lengthOf 23 = .ok (.getfield 45, 3) := by decide +kernel
theorem dX12_lengthOf_26 : decode cX12_lengthOf 26 = .ok (.iload_n 3, 1) := by decide +kernel
theorem dX12_lengthOf_27 : decode cX12_lengthOf 27 = .ok (.iaload, 1) := by decide +kernel
theorem dX12_lengthOf_28 : decode cX12_lengthOf 28 = .ok (.goto 4, 3) := by decide +kernel
theorem dX12_lengthOf_31 : decode cX12_lengthOf 31 = .ok (.iconst 0, 1) := by decide +kernel
theorem dX12_lengthOf_32 : decode cX12_lengthOf 32 = .ok (.iadd, 1) := by decide +kernel
theorem dX12_lengthOf_33 : decode cX12_lengthOf 33 = .ok (.istore_n 2, 1) := by decide +kernel
theorem dX12_lengthOf_34 : decode cX12_lengthOf 34 = .ok (.iinc 3 1, 3) := by decide +kernel
theorem dX12_lengthOf_37 : decode cX12_lengthOf 37 = .ok (.goto (-33), 3) := by decide +kernel
theorem dX12_lengthOf_40 : decode cX12_lengthOf 40 = .ok (.iload_n 2, 1) := by decide +kernel
theorem dX12_lengthOf_41 : decode cX12_lengthOf 41 = .ok (.ireturn, 1) := by decide +kernel
abbrev o_X12_lengthOf : Type := Int32
def f_X12_lengthOf_L4 (S : wd_W) (p1 : Int32) (r3 : (Int32) → (Int32) → (Option o_X12_lengthOf)) (x1 : Int32) (x2 : Int32) : Option o_X12_lengthOf :=
if (S.1 21) ≤ x2 then (
some x1) else (
lk (fun x4 x5 =>
lz (x5 + x4) fun x7 =>
r3 x7 (x2 + (1 : Int32))) fun k32_6 =>
if ((p1 >>> (x2 &&& 31)) &&& (1 : Int32)) = (1 : Int32) then (
gd (okx x2 13) <|
k32_6 ((S.2.2.1 12) x2.toNatClampNeg) x1) else (
k32_6 (0 : Int32) x1))
def f_X12_lengthOf (S : wd_W) (p1 : Int32) : Option o_X12_lengthOf :=
it2 (f_X12_lengthOf_L4 S p1) fuel (0 : Int32) (0 : Int32)
set_option maxRecDepth 100000 in
set_option maxHeartbeats 4000000 in
theorem c_X12_lengthOf (l : Launch) (D : va_G) (q g : Nat → Nat) (cy : Nat → ClassId) (z : (Nat → Nat) × (Nat → Nat) × Nat) (S : wd_W) (p1 : Int32) (o : o_X12_lengthOf) (hf : f_X12_lengthOf S p1 = some o) : MX layM l yX12_lengthOf cX12_lengthOf 4 (some .int) ({ frames := 0, cells := 0, slots := 0, locals := 0 } : Room) D q g cy z [.ref (q 0), .int p1] S false (some (.int o)) (wd_o S [] [] [] [] []) 0 0 := by
  refine mx_of (own := RX12) (lc := [(0, .ref (q 0)), (1, .int p1)]) (by decide +kernel) rfl layM_ok (Nat.le_of_ble_eq_true rfl) rfl ?_
  intro X hXl hXq hXz hC hQ
  subst hXl; subst hXq; subst hXz
  unfold f_X12_lengthOf at hf
  refine go_iconst (pc' := 1) hC dX12_lengthOf_0 ki_0 rfl ?_
  refine go_istore_n (lc' := [(0, .ref (x_q X 0)), (1, .int p1), (2, .int (0 : Int32))]) (pc' := 2) hC dX12_lengthOf_1 (Nat.le_of_ble_eq_true rfl) rfl rfl ?_
  refine go_iconst (pc' := 3) hC dX12_lengthOf_2 ki_0 rfl ?_
  refine go_istore_n (lc' := [(0, .ref (x_q X 0)), (1, .int p1), (2, .int (0 : Int32)), (3, .int (0 : Int32))]) (pc' := 4) hC dX12_lengthOf_3 (Nat.le_of_ble_eq_true rfl) rfl rfl ?_
  have l4_11 : ∀ (nn : Nat) (x1 : Int32) (x2 : Int32), it2 (f_X12_lengthOf_L4 S p1) nn x1 x2 = some o → Go X layM S 4 [(0, .ref (x_q X 0)), (1, .int p1), (2, .int x1), (3, .int x2)] [] g [] [] [] [] [] 0 0 := by
    intro nn
    induction nn with
    | zero =>
      intro x1 x2 hf
      exact none_no hf
    | succ nn ih =>
      intro x1 x2 hf
      have hf : f_X12_lengthOf_L4 S p1 (it2 (f_X12_lengthOf_L4 S p1) nn) x1 x2 = some o := hf
      generalize it2 (f_X12_lengthOf_L4 S p1) nn = r3 at ih hf
      unfold f_X12_lengthOf_L4 at hf
      refine go_iload_n (pc' := 5) hC dX12_lengthOf_4 rfl rfl ?_
      refine go_aload_n (pc' := 6) hC dX12_lengthOf_5 rfl rfl ?_
      refine go_geti (v := (S.1 21)) (pc' := 9) hC 0 21 layM_0 rfl rfl inlX12 (Nat.le_of_ble_eq_true rfl) mw_247 rfl dX12_lengthOf_6 rfl rfl ?_
      refine go_icmp_ge (tgt := 40) (pc' := 12) hC dX12_lengthOf_9 (by decide) rfl (fun h10 => ?_) (fun h10 => ?_)
      · have hf := ite_t h10 hf
        refine go_iload_n (pc' := 41) hC dX12_lengthOf_40 rfl rfl ?_
        obtain rfl := Option.some.inj hf
        exact go_iret hC hQ dX12_lengthOf_41 rfl rfl rfl rfl (fun _ => rfl) rfl rfl
      · have hf := ite_f h10 hf
        refine go_iload_n (pc' := 13) hC dX12_lengthOf_12 rfl rfl ?_
        refine go_iload_n (pc' := 14) hC dX12_lengthOf_13 rfl rfl ?_
        refine go_iload_n (pc' := 15) hC dX12_lengthOf_14 rfl rfl ?_
        refine go_ishr (pc' := 16) hC dX12_lengthOf_15 rfl ?_
        refine go_iconst (pc' := 17) hC dX12_lengthOf_16 ki_1 rfl ?_
        refine go_iand (pc' := 18) hC dX12_lengthOf_17 rfl ?_
        refine go_iconst (pc' := 19) hC dX12_lengthOf_18 ki_1 rfl ?_
        obtain ⟨k32_6, hk32_6, hf⟩ := lk_e2 hf
        have jk32_6 : ∀ (x4 : Int32) (x5 : Int32), k32_6 x4 x5 = some o → Go X layM S 32 [(0, .ref (x_q X 0)), (1, .int p1), (3, .int x2)] [.int x4, .int x5] g [] [] [] [] [] 0 0 := by
          intro x4 x5 hf
          have hf := hk32_6 x4 x5 hf
          clear hk32_6
          refine go_iadd (pc' := 33) hC dX12_lengthOf_32 rfl ?_
          refine go_namei (fun x7 hx => ?_)
          have hf := lz_r hx hf
          clear hx
          refine go_istore_n (lc' := [(0, .ref (x_q X 0)), (1, .int p1), (2, .int x7), (3, .int x2)]) (pc' := 34) hC dX12_lengthOf_33 (Nat.le_of_ble_eq_true rfl) rfl rfl ?_
          refine go_iinc (lc' := [(0, .ref (x_q X 0)), (1, .int p1), (2, .int x7), (3, .int (x2 + (1 : Int32)))]) (pc' := 37) hC dX12_lengthOf_34 rfl ki_1 (Nat.le_of_ble_eq_true rfl) rfl rfl ?_
          refine go_goto (tgt := 4) hC dX12_lengthOf_37 (by decide) ?_
          exact ih x7 (x2 + (1 : Int32)) hf
        clear hk32_6
        refine go_icmp_ne (tgt := 31) (pc' := 22) hC dX12_lengthOf_19 (by decide) rfl (fun h9 => ?_) (fun h9 => ?_)
        · have hf := ite_f h9 hf
          refine go_iconst (pc' := 32) hC dX12_lengthOf_31 ki_0 rfl ?_
          refine go_sub [0, 1, 3] rfl ?_
          exact jk32_6 (0 : Int32) x1 hf
        · have hf := ite_t h9 hf
          refine go_aload_n (pc' := 23) hC dX12_lengthOf_22 rfl rfl ?_
          refine go_getq (pc' := 26) hC 0 26 layM_0 rfl rfl inlX12 (Nat.le_of_ble_eq_true rfl) mw_192 rfl dX12_lengthOf_23 rfl ?_
          refine go_iload_n (pc' := 27) hC dX12_lengthOf_26 rfl rfl ?_
          obtain ⟨h8, hf⟩ := gd_e hf
          refine go_iald (f := (S.2.2.1 12)) (pc' := 28) hC 12 layM_12 rfl rfl dX12_lengthOf_27 (okx_in h8) rfl ?_
          refine go_goto (tgt := 32) hC dX12_lengthOf_28 (by decide) ?_
          refine go_sub [0, 1, 3] rfl ?_
          exact jk32_6 ((S.2.2.1 12) x2.toNatClampNeg) x1 hf
  exact l4_11 fuel (0 : Int32) (0 : Int32) hf
theorem dX12_plan_0 : decode cX12_plan 0 = .ok (.iload_n 1, 1) := by decide +kernel
theorem dX12_plan_1 : decode cX12_plan 1 = .ok (.i2l, 1) := by decide +kernel
theorem dX12_plan_2 : decode cX12_plan 2 = .ok (.lconst 0, 1) := by decide +kernel
theorem dX12_plan_3 : decode cX12_plan 3 = .ok (.ldc2_w 367, 3) := by decide +kernel
theorem dX12_plan_6 : decode cX12_plan 6 = .ok (.invokestatic 218, 3) := by decide +kernel
theorem dX12_plan_9 : decode cX12_plan 9 = .ok (.ifCond .ne 5, 3) := by decide +kernel
theorem dX12_plan_12 : decode cX12_plan 12 = .ok (.iconst (-1), 1) := by decide +kernel
theorem dX12_plan_13 : decode cX12_plan 13 = .ok (.ireturn, 1) := by decide +kernel
theorem dX12_plan_14 : decode cX12_plan 14 = .ok (.bipush (-2), 2) := by decide +kernel
theorem dX12_plan_16 : decode cX12_plan 16 = .ok (.istore_n 2, 1) := by decide +kernel
theorem dX12_plan_17 : decode cX12_plan 17 = .ok (.iconst 0, 1) := by decide +kernel
theorem dX12_plan_18 : decode cX12_plan 18 = .ok (.istore_n 3, 1) := by decide +kernel
theorem dX12_plan_19 : decode cX12_plan 19 = .ok (.lconst 0, 1) := by decide +kernel
theorem dX12_plan_20 : decode cX12_plan 20 = .ok (.lstore 4, 2) := by decide +kernel
theorem dX12_plan_22 : decode cX12_plan 22 = .ok (.iconst 0, 1) := by decide +kernel
theorem dX12_plan_23 : decode cX12_plan 23 = .ok (.istore 6, 2) := by decide +kernel
theorem dX12_plan_25 : decode cX12_plan 25 = .ok (.iload 6, 2) := by decide +kernel
theorem dX12_plan_27 : decode cX12_plan 27 = .ok (.iconst 1, 1) := by decide +kernel
theorem dX12_plan_28 : decode cX12_plan 28 = .ok (.aload_n 0, 1) := by decide +kernel
theorem dX12_plan_29 : decode cX12_plan 29 = .ok (.getfield 279, 3) := by decide +kernel
theorem dX12_plan_32 : decode cX12_plan 32 = .ok (.ishl, 1) := by decide +kernel
theorem dX12_plan_33 : decode cX12_plan 33 = .ok (.if_icmp .ge 79, 3) := by decide +kernel
theorem dX12_plan_36 : decode cX12_plan 36 = .ok (.aload_n 0, 1) := by decide +kernel
theorem dX12_plan_37 : decode cX12_plan 37 = .ok (.iload 6, 2) := by decide +kernel
theorem dX12_plan_39 : decode cX12_plan 39 = .ok (.invokevirtual 439, 3) := by decide +kernel
theorem dX12_plan_42 : decode cX12_plan 42 = .ok (.istore 7, 2) := by decide +kernel
theorem dX12_plan_44 : decode cX12_plan 44 = .ok (.iload_n 2, 1) := by decide +kernel
theorem dX12_plan_45 : decode cX12_plan 45 = .ok (.ifCond .lt 12, 3) := by decide +kernel
theorem dX12_plan_48 : decode cX12_plan 48 = .ok (.iload 7, 2) := by decide +kernel
theorem dX12_plan_50 : decode cX12_plan 50 = .ok (.iload_n 3, 1) := by decide +kernel
theorem dX12_plan_51 : decode cX12_plan 51 = .ok (.if_icmp .le 6, 3) := by decide +kernel
theorem dX12_plan_54 : decode cX12_plan 54 = .ok (.goto 52, 3) := by decide +kernel
theorem dX12_plan_57 : decode cX12_plan 57 = .ok (.aload_n 0, 1) := by decide +kernel
theorem dX12_plan_58 : decode cX12_plan 58 = .ok (.iload 6, 2) := by decide +kernel
theorem dX12_plan_60 : decode cX12_plan 60 = .ok (.invokevirtual 436, 3) := by decide +kernel
theorem dX12_plan_63 : decode cX12_plan 63 = .ok (.lstore 8, 2) := by decide +kernel
theorem dX12_plan_65 : decode cX12_plan 65 = .ok (.aload_n 0, 1) := by decide +kernel
theorem dX12_plan_66 : decode cX12_plan 66 = .ok (.lload 8, 2) := by decide +kernel
theorem dX12_plan_68 : decode cX12_plan 68 = .ok (.iload_n 1, 1) := by decide +kernel
theorem dX12_plan_69 : decode cX12_plan 69 = .ok (.invokevirtual 442, 3) := by decide +kernel
theorem dX12_plan_72 : decode cX12_plan 72 = .ok (.ifCond .eq 34, 3) := by decide +kernel
theorem dX12_plan_75 : decode cX12_plan 75 = .ok (.iload_n 2, 1) := by decide +kernel
theorem dX12_plan_76 : decode cX12_plan 76 = .ok (.ifCond .lt 20, 3) := by decide +kernel
theorem dX12_plan_79 : decode cX12_plan 79 = .ok (.iload 7, 2) := by decide +kernel
theorem dX12_plan_81 : decode cX12_plan 81 = .ok (.iload_n 3, 1) := by decide +kernel
theorem dX12_plan_82 : decode cX12_plan 82 = .ok (.if_icmp .ne 14, 3) := by decide +kernel
theorem dX12_plan_85 : decode cX12_plan 85 = .ok (.lload 8, 2) := by decide +kernel
theorem dX12_plan_87 : decode cX12_plan 87 = .ok (.lload 4, 2) := by decide +kernel
theorem dX12_plan_89 : decode cX12_plan 89 = .ok (.lcmp, 1) := by decide +kernel
theorem dX12_plan_90 : decode cX12_plan 90 = .ok (.ifCond .gt 6, 3) := by decide +kernel
theorem dX12_plan_93 : decode cX12_plan 93 = .ok (.goto 13, 3) := by decide +kernel
theorem dX12_plan_96 : decode cX12_plan 96 = .ok (.iload 6, 2) := by decide +kernel
theorem dX12_plan_98 : decode cX12_plan 98 = .ok (.istore_n 2, 1) := by decide +kernel
theorem dX12_plan_99 : decode cX12_plan 99 = .ok (.iload 7, 2) := by decide +kernel
theorem dX12_plan_101 : decode cX12_plan 101 = .ok (.istore_n 3, 1) := by decide +kernel
theorem dX12_plan_102 : decode cX12_plan 102 = .ok (.lload 8, 2) := by decide +kernel
theorem dX12_plan_104 : decode cX12_plan 104 = .ok (.lstore 4, 2) := by decide +kernel
theorem dX12_plan_106 : decode cX12_plan 106 = .ok (.iinc 6 1, 3) := by decide +kernel
theorem dX12_plan_109 : decode cX12_plan 109 = .ok (.goto (-84), 3) := by decide +kernel
theorem dX12_plan_112 : decode cX12_plan 112 = .ok (.iload_n 2, 1) := by decide +kernel
theorem dX12_plan_113 : decode cX12_plan 113 = .ok (.ireturn, 1) := by decide +kernel
abbrev o_X12_plan : Type := Int32 × Int32 × Int32 × Int32 × (Nat → Int32) × (Nat → Int32) × (Nat → Int32) × (Nat → Int32) × (Nat → Int32) × (Nat → Int64)
def f_X12_plan_L25 (S : wd_W) (p1 : Int32) (r15 : (Int32) → (Int32) → (Int64) → (Int32) → (Int32) → (Int32) → (Int32) → (Nat → Int32) → (Nat → Int32) → (Nat → Int32) → (Nat → Int32) → (Nat → Int32) → (Nat → Int64) → (Option o_X12_plan)) (x2 : Int32) (x3 : Int32) (x4 : Int64) (x5 : Int32) (x6 : Int32) (x7 : Int32) (x8 : Int32) (a9 : Nat → Int32) (a10 : Nat → Int32) (a11 : Nat → Int32) (a12 : Nat → Int32) (a13 : Nat → Int32) (a14 : Nat → Int64) : Option o_X12_plan :=
if ((1 : Int32) <<< ((S.1 21) &&& 31)) ≤ x5 then (
some (x2, x6, x7, x8, a9, a10, a11, a12, a13, a14)) else (
bd (f_X12_lengthOf (wd_o S [(38, x6), (39, x7), (44, x8)] [] [(17, a9), (18, a10), (19, a11), (20, a12), (31, a13)] [(21, a14)] []) x5) fun o16 =>
lk (fun x17 x18 x19 x20 x21 x22 a23 a24 a25 a26 a27 a28 =>
r15 x17 x18 x19 (x5 + (1 : Int32)) x20 x21 x22 a23 a24 a25 a26 a27 a28) fun k106_29 =>
lk (bd (f_X12_builtOf (wd_o S [(38, x6), (39, x7), (44, x8)] [] [(17, a9), (18, a10), (19, a11), (20, a12), (31, a13)] [(21, a14)] []) x5) fun o31 =>
bd (f_X12_isAtLeast (wd_o S [(38, o31.2.1), (39, o31.2.2.1), (44, o31.2.2.2.1)] [] [(17, o31.2.2.2.2.1), (18, o31.2.2.2.2.2.1), (19, o31.2.2.2.2.2.2.1), (20, o31.2.2.2.2.2.2.2.1), (31, o31.2.2.2.2.2.2.2.2.1)] [(21, o31.2.2.2.2.2.2.2.2.2)] []) o31.1 p1) fun o32 =>
if o32 = 0 then (
k106_29 x2 x3 x4 o31.2.1 o31.2.2.1 o31.2.2.2.1 o31.2.2.2.2.1 o31.2.2.2.2.2.1 o31.2.2.2.2.2.2.1 o31.2.2.2.2.2.2.2.1 o31.2.2.2.2.2.2.2.2.1 o31.2.2.2.2.2.2.2.2.2) else (
lk (k106_29 x5 o16 o31.1 o31.2.1 o31.2.2.1 o31.2.2.2.1 o31.2.2.2.2.1 o31.2.2.2.2.2.1 o31.2.2.2.2.2.2.1 o31.2.2.2.2.2.2.2.1 o31.2.2.2.2.2.2.2.2.1 o31.2.2.2.2.2.2.2.2.2) fun k96_33 =>
if x2 < 0 then (
k96_33) else (
if o16 = x3 then (
if x4 < o31.1 then (
k96_33) else (
k106_29 x2 x3 x4 o31.2.1 o31.2.2.1 o31.2.2.2.1 o31.2.2.2.2.1 o31.2.2.2.2.2.1 o31.2.2.2.2.2.2.1 o31.2.2.2.2.2.2.2.1 o31.2.2.2.2.2.2.2.2.1 o31.2.2.2.2.2.2.2.2.2)) else (
k96_33)))) fun k57_30 =>
if x2 < 0 then (
k57_30) else (
if o16 ≤ x3 then (
k57_30) else (
k106_29 x2 x3 x4 x6 x7 x8 a9 a10 a11 a12 a13 a14)))
def f_X12_plan (S : wd_W) (p1 : Int32) : Option o_X12_plan :=
bd (f_X12_in p1.toInt64 (0 : Int64) (16 : Int64)) fun o1 =>
if o1 = 0 then (
some ((-1 : Int32), (S.1 38), (S.1 39), (S.1 44), (S.2.2.1 17), (S.2.2.1 18), (S.2.2.1 19), (S.2.2.1 20), (S.2.2.1 31), (S.2.2.2.1 21))) else (
it13 (f_X12_plan_L25 S p1) fuel (-2 : Int32) (0 : Int32) (0 : Int64) (0 : Int32) (S.1 38) (S.1 39) (S.1 44) (S.2.2.1 17) (S.2.2.1 18) (S.2.2.1 19) (S.2.2.1 20) (S.2.2.1 31) (S.2.2.2.1 21))
set_option maxRecDepth 100000 in
set_option maxHeartbeats 4000000 in
theorem c_X12_plan (l : Launch) (D : va_G) (q g : Nat → Nat) (cy : Nat → ClassId) (z : (Nat → Nat) × (Nat → Nat) × Nat) (S : wd_W) (p1 : Int32) (o : o_X12_plan) (hf : f_X12_plan S p1 = some o) : MX layM l yX12_plan cX12_plan 10 (some .int) ({ frames := 6, cells := 0, slots := 0, locals := 141 } : Room) D q g cy z [.ref (q 0), .int p1] S false (some (.int o.1)) (wd_o S [(38, o.2.1), (39, o.2.2.1), (44, o.2.2.2.1)] [] [(17, o.2.2.2.2.1), (18, o.2.2.2.2.2.1), (19, o.2.2.2.2.2.2.1), (20, o.2.2.2.2.2.2.2.1), (31, o.2.2.2.2.2.2.2.2.1)] [(21, o.2.2.2.2.2.2.2.2.2)] []) 0 0 := by
  refine mx_of (own := RX12) (lc := [(0, .ref (q 0)), (1, .int p1)]) (by decide +kernel) rfl layM_ok (Nat.le_of_ble_eq_true rfl) rfl ?_
  intro X hXl hXq hXz hC hQ
  subst hXl; subst hXq; subst hXz
  unfold f_X12_plan at hf
  refine go_keys (L1 := [(38, (S.1 38)), (39, (S.1 39)), (44, (S.1 44))]) (L2 := []) (L3 := [(17, (S.2.2.1 17)), (18, (S.2.2.1 18)), (19, (S.2.2.1 19)), (20, (S.2.2.1 20)), (31, (S.2.2.1 31))]) (L4 := [(21, (S.2.2.2.1 21))]) (L5 := []) [38, 39, 44] [] [17, 18, 19, 20, 31] [21] [] rfl rfl rfl rfl rfl ?_
  refine go_iload_n (pc' := 1) hC dX12_plan_0 rfl rfl ?_
  refine go_i2l (pc' := 2) hC dX12_plan_1 rfl ?_
  refine go_lconst (pc' := 3) hC dX12_plan_2 kl_0 rfl ?_
  refine go_ldc2 (pc' := 6) hC dX12_plan_3 mw_1038 rfl ?_
  obtain ⟨o1, ho1, hf⟩ := bd_e hf
  refine go_callS0 (pc' := 9) (As := [.long p1.toInt64, .long (0 : Int64), .long (16 : Int64)]) (st := []) (st' := [.int o1])    hC dX12_plan_6 ⟨mw_525, mw_527, mw_5, yd_yX12_in, yp_yX12_in, Nat.le_of_ble_eq_true rfl, Nat.le_of_ble_eq_true rfl, (Nat.le_of_ble_eq_true rfl), (Nat.le_of_ble_eq_true rfl)⟩ mw_526 rfl rfl (Nat.le_of_ble_eq_true rfl) (c_X12_in (x_l X) (x_D X) (x_q X) g (x_cy X) (x_z X) _ p1.toInt64 (0 : Int64) (16 : Int64) o1 ho1) rfl rfl ?_
  refine go_if_ne (tgt := 14) (pc' := 12) hC dX12_plan_9 (by decide) rfl (fun h42 => ?_) (fun h42 => ?_)
  · have hf := ite_f h42 hf
    refine go_bipush (pc' := 16) hC dX12_plan_14 kb_m2 rfl ?_
    refine go_istore_n (lc' := [(0, .ref (x_q X 0)), (1, .int p1), (2, .int (-2 : Int32))]) (pc' := 17) hC dX12_plan_16 (Nat.le_of_ble_eq_true rfl) rfl rfl ?_
    refine go_iconst (pc' := 18) hC dX12_plan_17 ki_0 rfl ?_
    refine go_istore_n (lc' := [(0, .ref (x_q X 0)), (1, .int p1), (2, .int (-2 : Int32)), (3, .int (0 : Int32))]) (pc' := 19) hC dX12_plan_18 (Nat.le_of_ble_eq_true rfl) rfl rfl ?_
    refine go_lconst (pc' := 20) hC dX12_plan_19 kl_0 rfl ?_
    refine go_lstore (lc' := [(0, .ref (x_q X 0)), (1, .int p1), (2, .int (-2 : Int32)), (3, .int (0 : Int32)), (4, .long (0 : Int64))]) (pc' := 22) hC dX12_plan_20 (Nat.le_of_ble_eq_true rfl) rfl rfl ?_
    refine go_iconst (pc' := 23) hC dX12_plan_22 ki_0 rfl ?_
    refine go_istore (lc' := [(0, .ref (x_q X 0)), (1, .int p1), (2, .int (-2 : Int32)), (3, .int (0 : Int32)), (4, .long (0 : Int64)), (6, .int (0 : Int32))]) (pc' := 25) hC dX12_plan_23 (Nat.le_of_ble_eq_true rfl) rfl rfl ?_
    have l25_41 : ∀ (nn : Nat) (x2 : Int32) (x3 : Int32) (x4 : Int64) (x5 : Int32) (x6 : Int32) (x7 : Int32) (x8 : Int32) (a9 : Nat → Int32) (a10 : Nat → Int32) (a11 : Nat → Int32) (a12 : Nat → Int32) (a13 : Nat → Int32) (a14 : Nat → Int64), it13 (f_X12_plan_L25 S p1) nn x2 x3 x4 x5 x6 x7 x8 a9 a10 a11 a12 a13 a14 = some o → Go X layM S 25 [(0, .ref (x_q X 0)), (1, .int p1), (2, .int x2), (3, .int x3), (4, .long x4), (6, .int x5)] [] g [(38, x6), (39, x7), (44, x8)] [] [(17, a9), (18, a10), (19, a11), (20, a12), (31, a13)] [(21, a14)] [] 0 0 := by
      intro nn
      induction nn with
      | zero =>
        intro x2 x3 x4 x5 x6 x7 x8 a9 a10 a11 a12 a13 a14 hf
        exact none_no hf
      | succ nn ih =>
        intro x2 x3 x4 x5 x6 x7 x8 a9 a10 a11 a12 a13 a14 hf
        have hf : f_X12_plan_L25 S p1 (it13 (f_X12_plan_L25 S p1) nn) x2 x3 x4 x5 x6 x7 x8 a9 a10 a11 a12 a13 a14 = some o := hf
        generalize it13 (f_X12_plan_L25 S p1) nn = r15 at ih hf
        unfold f_X12_plan_L25 at hf
        refine go_iload (pc' := 27) hC dX12_plan_25 rfl rfl ?_
        refine go_iconst (pc' := 28) hC dX12_plan_27 ki_1 rfl ?_
        refine go_aload_n (pc' := 29) hC dX12_plan_28 rfl rfl ?_
        refine go_geti (v := (S.1 21)) (pc' := 32) hC 0 21 layM_0 rfl rfl inlX12 (Nat.le_of_ble_eq_true rfl) mw_247 rfl dX12_plan_29 rfl rfl ?_
        refine go_ishl (pc' := 33) hC dX12_plan_32 rfl ?_
        refine go_icmp_ge (tgt := 112) (pc' := 36) hC dX12_plan_33 (by decide) rfl (fun h40 => ?_) (fun h40 => ?_)
        · have hf := ite_t h40 hf
          refine go_iload_n (pc' := 113) hC dX12_plan_112 rfl rfl ?_
          obtain rfl := Option.some.inj hf
          exact go_iret hC hQ dX12_plan_113 rfl rfl rfl rfl (fun _ => rfl) rfl rfl
        · have hf := ite_f h40 hf
          refine go_aload_n (pc' := 37) hC dX12_plan_36 rfl rfl ?_
          refine go_iload (pc' := 39) hC dX12_plan_37 rfl rfl ?_
          obtain ⟨o16, ho16, hf⟩ := bd_e hf
          refine go_callV0 (pc' := 42) (As := [.int x5]) (st := []) (st' := [.int o16])    (b := 0) hC dX12_plan_39 ⟨mw_1201, mw_1204, mw_5, yd_yX12_lengthOf, yp_yX12_lengthOf, Nat.le_of_ble_eq_true rfl, Nat.le_of_ble_eq_true rfl, (Nat.le_of_ble_eq_true rfl), (Nat.le_of_ble_eq_true rfl)⟩ mw_1202 mw_1203 layM_0 rfl rfl rfl (Nat.le_of_ble_eq_true rfl) (c_X12_lengthOf (x_l X) (x_D X) (x_q X) g (x_cy X) (x_z X) _ x5 o16 ho16) rfl rfl ?_
          refine go_istore (lc' := [(0, .ref (x_q X 0)), (1, .int p1), (2, .int x2), (3, .int x3), (4, .long x4), (6, .int x5), (7, .int o16)]) (pc' := 44) hC dX12_plan_42 (Nat.le_of_ble_eq_true rfl) rfl rfl ?_
          refine go_iload_n (pc' := 45) hC dX12_plan_44 rfl rfl ?_
          obtain ⟨k106_29, hk106_29, hf⟩ := lk_e12 hf
          have jk106_29 : ∀ (x17 : Int32) (x18 : Int32) (x19 : Int64) (x20 : Int32) (x21 : Int32) (x22 : Int32) (a23 : Nat → Int32) (a24 : Nat → Int32) (a25 : Nat → Int32) (a26 : Nat → Int32) (a27 : Nat → Int32) (a28 : Nat → Int64), k106_29 x17 x18 x19 x20 x21 x22 a23 a24 a25 a26 a27 a28 = some o → Go X layM S 106 [(0, .ref (x_q X 0)), (1, .int p1), (2, .int x17), (3, .int x18), (4, .long x19), (6, .int x5)] [] g [(38, x20), (39, x21), (44, x22)] [] [(17, a23), (18, a24), (19, a25), (20, a26), (31, a27)] [(21, a28)] [] 0 0 := by
            intro x17 x18 x19 x20 x21 x22 a23 a24 a25 a26 a27 a28 hf
            have hf := hk106_29 x17 x18 x19 x20 x21 x22 a23 a24 a25 a26 a27 a28 hf
            clear hk106_29
            refine go_iinc (lc' := [(0, .ref (x_q X 0)), (1, .int p1), (2, .int x17), (3, .int x18), (4, .long x19), (6, .int (x5 + (1 : Int32)))]) (pc' := 109) hC dX12_plan_106 rfl ki_1 (Nat.le_of_ble_eq_true rfl) rfl rfl ?_
            refine go_goto (tgt := 25) hC dX12_plan_109 (by decide) ?_
            exact ih x17 x18 x19 (x5 + (1 : Int32)) x20 x21 x22 a23 a24 a25 a26 a27 a28 hf
          clear hk106_29
          obtain ⟨k57_30, hk57_30, hf⟩ := lk_e0 hf
          have jk57_30 : ∀ (_ : Unit), k57_30 = some o → Go X layM S 57 [(0, .ref (x_q X 0)), (1, .int p1), (2, .int x2), (3, .int x3), (4, .long x4), (6, .int x5), (7, .int o16)] [] g [(38, x6), (39, x7), (44, x8)] [] [(17, a9), (18, a10), (19, a11), (20, a12), (31, a13)] [(21, a14)] [] 0 0 := by
            intro _ hf
            have hf := hk57_30 hf
            clear hk57_30
            refine go_aload_n (pc' := 58) hC dX12_plan_57 rfl rfl ?_
            refine go_iload (pc' := 60) hC dX12_plan_58 rfl rfl ?_
            obtain ⟨o31, ho31, hf⟩ := bd_e hf
            refine go_callV1 (pc' := 63) (As := [.int x5]) (st := []) (st' := [.long o31.1]) (L1' := [(38, o31.2.1), (39, o31.2.2.1), (44, o31.2.2.2.1)]) (L2' := []) (L3' := [(17, o31.2.2.2.2.1), (18, o31.2.2.2.2.2.1), (19, o31.2.2.2.2.2.2.1), (20, o31.2.2.2.2.2.2.2.1), (31, o31.2.2.2.2.2.2.2.2.1)]) (L4' := [(21, o31.2.2.2.2.2.2.2.2.2)]) (L5' := []) (cells' := 0) (slots' := 0)  (b := 0) hC dX12_plan_60 ⟨mw_1205, mw_1208, mw_5, yd_yX12_builtOf, yp_yX12_builtOf, Nat.le_of_ble_eq_true rfl, Nat.le_of_ble_eq_true rfl, (Nat.le_of_ble_eq_true rfl), (Nat.le_of_ble_eq_true rfl)⟩ mw_1206 mw_1207 layM_0 rfl rfl rfl (Nat.le_of_ble_eq_true rfl) (c_X12_builtOf (x_l X) (x_D X) (x_q X) g (x_cy X) (x_z X) _ x5 o31 ho31) rfl rfl rfl rfl rfl rfl rfl rfl rfl rfl rfl rfl rfl rfl ?_
            refine go_lstore (lc' := [(0, .ref (x_q X 0)), (1, .int p1), (2, .int x2), (3, .int x3), (4, .long x4), (6, .int x5), (7, .int o16), (8, .long o31.1)]) (pc' := 65) hC dX12_plan_63 (Nat.le_of_ble_eq_true rfl) rfl rfl ?_
            refine go_aload_n (pc' := 66) hC dX12_plan_65 rfl rfl ?_
            refine go_lload (pc' := 68) hC dX12_plan_66 rfl rfl ?_
            refine go_iload_n (pc' := 69) hC dX12_plan_68 rfl rfl ?_
            obtain ⟨o32, ho32, hf⟩ := bd_e hf
            refine go_callV0 (pc' := 72) (As := [.long o31.1, .int p1]) (st := []) (st' := [.int o32])    (b := 0) hC dX12_plan_69 ⟨mw_1209, mw_1212, mw_5, yd_yX12_isAtLeast, yp_yX12_isAtLeast, Nat.le_of_ble_eq_true rfl, Nat.le_of_ble_eq_true rfl, (Nat.le_of_ble_eq_true rfl), (Nat.le_of_ble_eq_true rfl)⟩ mw_1210 mw_1211 layM_0 rfl rfl rfl (Nat.le_of_ble_eq_true rfl) (c_X12_isAtLeast (x_l X) (x_D X) (x_q X) g (x_cy X) (x_z X) _ o31.1 p1 o32 ho32) rfl rfl ?_
            refine go_if_eq (tgt := 106) (pc' := 75) hC dX12_plan_72 (by decide) rfl (fun h37 => ?_) (fun h37 => ?_)
            · have hf := ite_t h37 hf
              refine go_sub [0, 1, 2, 3, 4, 6] rfl ?_
              exact jk106_29 x2 x3 x4 o31.2.1 o31.2.2.1 o31.2.2.2.1 o31.2.2.2.2.1 o31.2.2.2.2.2.1 o31.2.2.2.2.2.2.1 o31.2.2.2.2.2.2.2.1 o31.2.2.2.2.2.2.2.2.1 o31.2.2.2.2.2.2.2.2.2 hf
            · have hf := ite_f h37 hf
              refine go_iload_n (pc' := 76) hC dX12_plan_75 rfl rfl ?_
              obtain ⟨k96_33, hk96_33, hf⟩ := lk_e0 hf
              have jk96_33 : ∀ (_ : Unit), k96_33 = some o → Go X layM S 96 [(0, .ref (x_q X 0)), (1, .int p1), (6, .int x5), (7, .int o16), (8, .long o31.1)] [] g [(38, o31.2.1), (39, o31.2.2.1), (44, o31.2.2.2.1)] [] [(17, o31.2.2.2.2.1), (18, o31.2.2.2.2.2.1), (19, o31.2.2.2.2.2.2.1), (20, o31.2.2.2.2.2.2.2.1), (31, o31.2.2.2.2.2.2.2.2.1)] [(21, o31.2.2.2.2.2.2.2.2.2)] [] 0 0 := by
                intro _ hf
                have hf := hk96_33 hf
                clear hk96_33
                refine go_iload (pc' := 98) hC dX12_plan_96 rfl rfl ?_
                refine go_istore_n (lc' := [(0, .ref (x_q X 0)), (1, .int p1), (2, .int x5), (6, .int x5), (7, .int o16), (8, .long o31.1)]) (pc' := 99) hC dX12_plan_98 (Nat.le_of_ble_eq_true rfl) rfl rfl ?_
                refine go_iload (pc' := 101) hC dX12_plan_99 rfl rfl ?_
                refine go_istore_n (lc' := [(0, .ref (x_q X 0)), (1, .int p1), (2, .int x5), (3, .int o16), (6, .int x5), (7, .int o16), (8, .long o31.1)]) (pc' := 102) hC dX12_plan_101 (Nat.le_of_ble_eq_true rfl) rfl rfl ?_
                refine go_lload (pc' := 104) hC dX12_plan_102 rfl rfl ?_
                refine go_lstore (lc' := [(0, .ref (x_q X 0)), (1, .int p1), (2, .int x5), (3, .int o16), (4, .long o31.1), (6, .int x5), (7, .int o16), (8, .long o31.1)]) (pc' := 106) hC dX12_plan_104 (Nat.le_of_ble_eq_true rfl) rfl rfl ?_
                refine go_sub [0, 1, 2, 3, 4, 6] rfl ?_
                exact jk106_29 x5 o16 o31.1 o31.2.1 o31.2.2.1 o31.2.2.2.1 o31.2.2.2.2.1 o31.2.2.2.2.2.1 o31.2.2.2.2.2.2.1 o31.2.2.2.2.2.2.2.1 o31.2.2.2.2.2.2.2.2.1 o31.2.2.2.2.2.2.2.2.2 hf
              clear hk96_33
              refine go_if_lt (tgt := 96) (pc' := 79) hC dX12_plan_76 (by decide) rfl (fun h36 => ?_) (fun h36 => ?_)
              · have hf := ite_t h36 hf
                refine go_sub [0, 1, 6, 7, 8] rfl ?_
                exact jk96_33 () hf
              · have hf := ite_f h36 hf
                refine go_iload (pc' := 81) hC dX12_plan_79 rfl rfl ?_
                refine go_iload_n (pc' := 82) hC dX12_plan_81 rfl rfl ?_
                refine go_icmp_ne (tgt := 96) (pc' := 85) hC dX12_plan_82 (by decide) rfl (fun h35 => ?_) (fun h35 => ?_)
                · have hf := ite_f h35 hf
                  refine go_sub [0, 1, 6, 7, 8] rfl ?_
                  exact jk96_33 () hf
                · have hf := ite_t h35 hf
                  refine go_lload (pc' := 87) hC dX12_plan_85 rfl rfl ?_
                  refine go_lload (pc' := 89) hC dX12_plan_87 rfl rfl ?_
                  refine go_lcmp (pc' := 90) hC dX12_plan_89 rfl ?_
                  refine go_if_gt (tgt := 96) (pc' := 93) hC dX12_plan_90 (by decide) rfl (fun h34 => ?_) (fun h34 => ?_)
                  · have hf := ite_t (lg_gt.mp h34) hf
                    refine go_sub [0, 1, 6, 7, 8] rfl ?_
                    exact jk96_33 () hf
                  · have hf := ite_f (mt lg_gt.mpr h34) hf
                    refine go_goto (tgt := 106) hC dX12_plan_93 (by decide) ?_
                    refine go_sub [0, 1, 2, 3, 4, 6] rfl ?_
                    exact jk106_29 x2 x3 x4 o31.2.1 o31.2.2.1 o31.2.2.2.1 o31.2.2.2.2.1 o31.2.2.2.2.2.1 o31.2.2.2.2.2.2.1 o31.2.2.2.2.2.2.2.1 o31.2.2.2.2.2.2.2.2.1 o31.2.2.2.2.2.2.2.2.2 hf
          clear hk57_30
          refine go_if_lt (tgt := 57) (pc' := 48) hC dX12_plan_45 (by decide) rfl (fun h39 => ?_) (fun h39 => ?_)
          · have hf := ite_t h39 hf
            exact jk57_30 () hf
          · have hf := ite_f h39 hf
            refine go_iload (pc' := 50) hC dX12_plan_48 rfl rfl ?_
            refine go_iload_n (pc' := 51) hC dX12_plan_50 rfl rfl ?_
            refine go_icmp_le (tgt := 57) (pc' := 54) hC dX12_plan_51 (by decide) rfl (fun h38 => ?_) (fun h38 => ?_)
            · have hf := ite_t h38 hf
              exact jk57_30 () hf
            · have hf := ite_f h38 hf
              refine go_goto (tgt := 106) hC dX12_plan_54 (by decide) ?_
              refine go_sub [0, 1, 2, 3, 4, 6] rfl ?_
              exact jk106_29 x2 x3 x4 x6 x7 x8 a9 a10 a11 a12 a13 a14 hf
    exact l25_41 fuel (-2 : Int32) (0 : Int32) (0 : Int64) (0 : Int32) (S.1 38) (S.1 39) (S.1 44) (S.2.2.1 17) (S.2.2.1 18) (S.2.2.1 19) (S.2.2.1 20) (S.2.2.1 31) (S.2.2.2.1 21) hf
  · have hf := ite_t h42 hf
    refine go_iconst (pc' := 13) hC dX12_plan_12 ki_m1 rfl ?_
    obtain rfl := Option.some.inj hf
    exact go_iret hC hQ dX12_plan_13 rfl rfl rfl rfl (fun _ => rfl) rfl rfl
theorem dX12_without_0 : decode cX12_without 0 = .ok (.iload_n 1, 1) := by decide +kernel
theorem dX12_without_1 : decode cX12_without 1 = .ok (.i2l, 1) := by decide +kernel
theorem dX12_without_2 : decode cX12_without 2 = .ok (.lconst 0, 1) := by decide +kernel
theorem dX12_without_3 : decode cX12_without 3 = .ok (.aload_n 0, 1) := by decide +kernel
theorem dX12_without_4 : decode cX12_without 4 = .ok (.getfield 285, 3) := by decide +kernel
theorem dX12_without_7 : decode cX12_without 7 = .ok (.iconst 1, 1) := by decide +kernel
theorem dX12_without_8 : decode cX12_without 8 = .ok (.isub, 1) := by decide +kernel
theorem dX12_without_9 : decode cX12_without 9 = .ok (.i2l, 1) := by decide +kernel
theorem dX12_without_10 : decode cX12_without 10 = .ok (.invokestatic 218, 3) := by decide +kernel
theorem dX12_without_13 : decode cX12_without 13 = .ok (.ifCond .eq 22, 3) := by decide +kernel
theorem dX12_without_16 : decode cX12_without 16 = .ok (.aload_n 0, 1) := by decide +kernel
theorem dX12_without_17 : decode cX12_without 17 = .ok (.aload_n 0, 1) := by decide +kernel
theorem dX12_without_18 : decode cX12_without 18 = .ok (.getfield 279, 3) := by decide +kernel
theorem dX12_without_21 : decode cX12_without 21 = .ok (.aload_n 0, 1) := by decide +kernel
theorem dX12_without_22 : decode cX12_without 22 = .ok (.getfield 282, 3) := by decide +kernel
theorem dX12_without_25 : decode cX12_without 25 = .ok (.iadd, 1) := by decide +kernel
theorem dX12_without_26 : decode cX12_without 26 = .ok (.iload_n 1, 1) := by decide +kernel
theorem dX12_without_27 : decode cX12_without 27 = .ok (.iadd, 1) := by decide +kernel
theorem dX12_without_28 : decode cX12_without 28 = .ok (.iconst 1, 1) := by decide +kernel
theorem dX12_without_29 : decode cX12_without 29 = .ok (.invokevirtual 385, 3) := by decide +kernel
theorem dX12_without_32 : decode cX12_without 32 = .ok (.goto 6, 3) := by decide +kernel
theorem dX12_without_35 : decode cX12_without 35 = .ok (.ldc2_w 373, 3) := by decide +kernel
theorem dX12_without_38 : decode cX12_without 38 = .ok (.lreturn, 1) := by decide +kernel
abbrev o_X12_without : Type := Int64 × Int32 × Int32 × Int32 × (Nat → Int32) × (Nat → Int32) × (Nat → Int32) × (Nat → Int32) × (Nat → Int32) × (Nat → Int32) × (Nat → Int64)
def f_X12_without (S : wd_W) (p1 : Int32) : Option o_X12_without :=
bd (f_X12_in p1.toInt64 (0 : Int64) (((S.1 31) - (1 : Int32)).toInt64)) fun o1 =>
if o1 = 0 then (
some ((-1 : Int64), (S.1 38), (S.1 39), (S.1 44), (S.2.2.1 17), (S.2.2.1 18), (S.2.2.1 19), (S.2.2.1 20), (S.2.2.1 22), (S.2.2.1 23), (S.2.2.2.1 21))) else (
bd (f_X12_sureOf (wd_o S [(38, (S.1 38)), (39, (S.1 39)), (44, (S.1 44))] [] [(17, (S.2.2.1 17)), (18, (S.2.2.1 18)), (19, (S.2.2.1 19)), (20, (S.2.2.1 20)), (22, (S.2.2.1 22)), (23, (S.2.2.1 23))] [(21, (S.2.2.2.1 21))] []) (((S.1 21) + (S.1 30)) + p1) (1 : Int32)) fun o2 =>
some (o2.1, o2.2.1, o2.2.2.1, o2.2.2.2.1, o2.2.2.2.2.1, o2.2.2.2.2.2.1, o2.2.2.2.2.2.2.1, o2.2.2.2.2.2.2.2.1, o2.2.2.2.2.2.2.2.2.1, o2.2.2.2.2.2.2.2.2.2.1, o2.2.2.2.2.2.2.2.2.2.2))
set_option maxRecDepth 100000 in
set_option maxHeartbeats 4000000 in
theorem c_X12_without (l : Launch) (D : va_G) (q g : Nat → Nat) (cy : Nat → ClassId) (z : (Nat → Nat) × (Nat → Nat) × Nat) (S : wd_W) (p1 : Int32) (o : o_X12_without) (hf : f_X12_without S p1 = some o) : MX layM l yX12_without cX12_without 2 (some .long) ({ frames := 7, cells := 0, slots := 0, locals := 160 } : Room) D q g cy z [.ref (q 0), .int p1] S false (some (.long o.1)) (wd_o S [(38, o.2.1), (39, o.2.2.1), (44, o.2.2.2.1)] [] [(17, o.2.2.2.2.1), (18, o.2.2.2.2.2.1), (19, o.2.2.2.2.2.2.1), (20, o.2.2.2.2.2.2.2.1), (22, o.2.2.2.2.2.2.2.2.1), (23, o.2.2.2.2.2.2.2.2.2.1)] [(21, o.2.2.2.2.2.2.2.2.2.2)] []) 0 0 := by
  refine mx_of (own := RX12) (lc := [(0, .ref (q 0)), (1, .int p1)]) (by decide +kernel) rfl layM_ok (Nat.le_of_ble_eq_true rfl) rfl ?_
  intro X hXl hXq hXz hC hQ
  subst hXl; subst hXq; subst hXz
  unfold f_X12_without at hf
  refine go_keys (L1 := [(38, (S.1 38)), (39, (S.1 39)), (44, (S.1 44))]) (L2 := []) (L3 := [(17, (S.2.2.1 17)), (18, (S.2.2.1 18)), (19, (S.2.2.1 19)), (20, (S.2.2.1 20)), (22, (S.2.2.1 22)), (23, (S.2.2.1 23))]) (L4 := [(21, (S.2.2.2.1 21))]) (L5 := []) [38, 39, 44] [] [17, 18, 19, 20, 22, 23] [21] [] rfl rfl rfl rfl rfl ?_
  refine go_iload_n (pc' := 1) hC dX12_without_0 rfl rfl ?_
  refine go_i2l (pc' := 2) hC dX12_without_1 rfl ?_
  refine go_lconst (pc' := 3) hC dX12_without_2 kl_0 rfl ?_
  refine go_aload_n (pc' := 4) hC dX12_without_3 rfl rfl ?_
  refine go_geti (v := (S.1 31)) (pc' := 7) hC 0 31 layM_0 rfl rfl inlX12 (Nat.le_of_ble_eq_true rfl) mw_249 rfl dX12_without_4 rfl rfl ?_
  refine go_iconst (pc' := 8) hC dX12_without_7 ki_1 rfl ?_
  refine go_isub (pc' := 9) hC dX12_without_8 rfl ?_
  refine go_i2l (pc' := 10) hC dX12_without_9 rfl ?_
  obtain ⟨o1, ho1, hf⟩ := bd_e hf
  refine go_callS0 (pc' := 13) (As := [.long p1.toInt64, .long (0 : Int64), .long (((S.1 31) - (1 : Int32)).toInt64)]) (st := []) (st' := [.int o1])    hC dX12_without_10 ⟨mw_525, mw_527, mw_5, yd_yX12_in, yp_yX12_in, Nat.le_of_ble_eq_true rfl, Nat.le_of_ble_eq_true rfl, (Nat.le_of_ble_eq_true rfl), (Nat.le_of_ble_eq_true rfl)⟩ mw_526 rfl rfl (Nat.le_of_ble_eq_true rfl) (c_X12_in (x_l X) (x_D X) (x_q X) g (x_cy X) (x_z X) _ p1.toInt64 (0 : Int64) (((S.1 31) - (1 : Int32)).toInt64) o1 ho1) rfl rfl ?_
  refine go_if_eq (tgt := 35) (pc' := 16) hC dX12_without_13 (by decide) rfl (fun h3 => ?_) (fun h3 => ?_)
  · have hf := ite_t h3 hf
    refine go_ldc2 (pc' := 38) hC dX12_without_35 mw_922 rfl ?_
    obtain rfl := Option.some.inj hf
    exact go_lret hC hQ dX12_without_38 rfl rfl rfl (fun _ => rfl) rfl rfl
  · have hf := ite_f h3 hf
    refine go_aload_n (pc' := 17) hC dX12_without_16 rfl rfl ?_
    refine go_aload_n (pc' := 18) hC dX12_without_17 rfl rfl ?_
    refine go_geti (v := (S.1 21)) (pc' := 21) hC 0 21 layM_0 rfl rfl inlX12 (Nat.le_of_ble_eq_true rfl) mw_247 rfl dX12_without_18 rfl rfl ?_
    refine go_aload_n (pc' := 22) hC dX12_without_21 rfl rfl ?_
    refine go_geti (v := (S.1 30)) (pc' := 25) hC 0 30 layM_0 rfl rfl inlX12 (Nat.le_of_ble_eq_true rfl) mw_248 rfl dX12_without_22 rfl rfl ?_
    refine go_iadd (pc' := 26) hC dX12_without_25 rfl ?_
    refine go_iload_n (pc' := 27) hC dX12_without_26 rfl rfl ?_
    refine go_iadd (pc' := 28) hC dX12_without_27 rfl ?_
    refine go_iconst (pc' := 29) hC dX12_without_28 ki_1 rfl ?_
    obtain ⟨o2, ho2, hf⟩ := bd_e hf
    refine go_callV1 (pc' := 32) (As := [.int (((S.1 21) + (S.1 30)) + p1), .int (1 : Int32)]) (st := []) (st' := [.long o2.1]) (L1' := [(38, o2.2.1), (39, o2.2.2.1), (44, o2.2.2.2.1)]) (L2' := []) (L3' := [(17, o2.2.2.2.2.1), (18, o2.2.2.2.2.2.1), (19, o2.2.2.2.2.2.2.1), (20, o2.2.2.2.2.2.2.2.1), (22, o2.2.2.2.2.2.2.2.2.1), (23, o2.2.2.2.2.2.2.2.2.2.1)]) (L4' := [(21, o2.2.2.2.2.2.2.2.2.2.2)]) (L5' := []) (cells' := 0) (slots' := 0)  (b := 0) hC dX12_without_29 ⟨mw_960, mw_963, mw_5, yd_yX12_sureOf, yp_yX12_sureOf, Nat.le_of_ble_eq_true rfl, Nat.le_of_ble_eq_true rfl, (Nat.le_of_ble_eq_true rfl), (Nat.le_of_ble_eq_true rfl)⟩ mw_961 mw_962 layM_0 rfl rfl rfl (Nat.le_of_ble_eq_true rfl) (c_X12_sureOf (x_l X) (x_D X) (x_q X) g (x_cy X) (x_z X) _ (((S.1 21) + (S.1 30)) + p1) (1 : Int32) o2 ho2) rfl rfl rfl rfl rfl rfl rfl rfl rfl rfl rfl rfl rfl rfl ?_
    refine go_goto (tgt := 38) hC dX12_without_32 (by decide) ?_
    obtain rfl := Option.some.inj hf
    exact go_lret hC hQ dX12_without_38 rfl rfl rfl (fun _ => rfl) rfl rfl
theorem dX12_areEnds_0 : decode cX12_areEnds 0 = .ok (.iload_n 1, 1) := by decide +kernel
theorem dX12_areEnds_1 : decode cX12_areEnds 1 = .ok (.i2l, 1) := by decide +kernel
theorem dX12_areEnds_2 : decode cX12_areEnds 2 = .ok (.lconst 0, 1) := by decide +kernel
theorem dX12_areEnds_3 : decode cX12_areEnds 3 = .ok (.aload_n 0, 1) := by decide +kernel
theorem dX12_areEnds_4 : decode cX12_areEnds 4 = .ok (.getfield 276, 3) := by decide +kernel
theorem dX12_areEnds_7 : decode cX12_areEnds 7 = .ok (.iconst 1, 1) := by decide +kernel
theorem dX12_areEnds_8 : decode cX12_areEnds 8 = .ok (.isub, 1) := by decide +kernel
theorem dX12_areEnds_9 : decode cX12_areEnds 9 = .ok (.i2l, 1) := by decide +kernel
theorem dX12_areEnds_10 : decode cX12_areEnds 10 = .ok (.invokestatic 218, 3) := by decide +kernel
theorem dX12_areEnds_13 : decode cX12_areEnds 13 = .ok (.ifCond .eq 28, 3) := by decide +kernel
theorem dX12_areEnds_16 : decode cX12_areEnds 16 = .ok (.iload_n 2, 1) := by decide +kernel
theorem dX12_areEnds_17 : decode cX12_areEnds 17 = .ok (.i2l, 1) := by decide +kernel
theorem dX12_areEnds_18 : decode cX12_areEnds 18 = .ok (.lconst 0, 1) := by decide +kernel
theorem dX12_areEnds_19 : decode cX12_areEnds 19 = .ok (.aload_n 0, 1) := by decide +kernel
theorem dX12_areEnds_20 : decode cX12_areEnds 20 = .ok (.getfield 276, 3) := by decide +kernel
theorem dX12_areEnds_23 : decode cX12_areEnds 23 = .ok (.iconst 1, 1) := by decide +kernel
theorem dX12_areEnds_24 : decode cX12_areEnds 24 = .ok (.isub, 1) := by decide +kernel
theorem dX12_areEnds_25 : decode cX12_areEnds 25 = .ok (.i2l, 1) := by decide +kernel
theorem dX12_areEnds_26 : decode cX12_areEnds 26 = .ok (.invokestatic 218, 3) := by decide +kernel
theorem dX12_areEnds_29 : decode cX12_areEnds 29 = .ok (.ifCond .eq 12, 3) := by decide +kernel
theorem dX12_areEnds_32 : decode cX12_areEnds 32 = .ok (.iload_n 1, 1) := by decide +kernel
theorem dX12_areEnds_33 : decode cX12_areEnds 33 = .ok (.iload_n 2, 1) := by decide +kernel
theorem dX12_areEnds_34 : decode cX12_areEnds 34 = .ok (.if_icmp .eq 7, 3) := by decide +kernel
theorem dX12_areEnds_37 : decode cX12_areEnds 37 = .ok (.iconst 1, 1) := by decide +kernel
theorem dX12_areEnds_38 : decode cX12_areEnds 38 = .ok (.goto 4, 3) := by decide +kernel
theorem dX12_areEnds_41 : decode cX12_areEnds 41 = .ok (.iconst 0, 1) := by decide +kernel
theorem dX12_areEnds_42 : decode cX12_areEnds 42 = .ok (.ireturn, 1) := by decide +kernel
abbrev o_X12_areEnds : Type := Int32
def f_X12_areEnds (S : wd_W) (p1 : Int32) (p2 : Int32) : Option o_X12_areEnds :=
bd (f_X12_in p1.toInt64 (0 : Int64) (((S.1 20) - (1 : Int32)).toInt64)) fun o1 =>
if o1 = 0 then (
some (0 : Int32)) else (
bd (f_X12_in p2.toInt64 (0 : Int64) (((S.1 20) - (1 : Int32)).toInt64)) fun o2 =>
if o2 = 0 then (
some (0 : Int32)) else (
if p1 = p2 then (
some (0 : Int32)) else (
some (1 : Int32))))
set_option maxRecDepth 100000 in
set_option maxHeartbeats 4000000 in
theorem c_X12_areEnds (l : Launch) (D : va_G) (q g : Nat → Nat) (cy : Nat → ClassId) (z : (Nat → Nat) × (Nat → Nat) × Nat) (S : wd_W) (p1 : Int32) (p2 : Int32) (o : o_X12_areEnds) (hf : f_X12_areEnds S p1 p2 = some o) : MX layM l yX12_areEnds cX12_areEnds 3 (some .boolean) ({ frames := 1, cells := 0, slots := 0, locals := 25 } : Room) D q g cy z [.ref (q 0), .int p1, .int p2] S false (some (.int o)) (wd_o S [] [] [] [] []) 0 0 := by
  refine mx_of (own := RX12) (lc := [(0, .ref (q 0)), (1, .int p1), (2, .int p2)]) (by decide +kernel) rfl layM_ok (Nat.le_of_ble_eq_true rfl) rfl ?_
  intro X hXl hXq hXz hC hQ
  subst hXl; subst hXq; subst hXz
  unfold f_X12_areEnds at hf
  refine go_iload_n (pc' := 1) hC dX12_areEnds_0 rfl rfl ?_
  refine go_i2l (pc' := 2) hC dX12_areEnds_1 rfl ?_
  refine go_lconst (pc' := 3) hC dX12_areEnds_2 kl_0 rfl ?_
  refine go_aload_n (pc' := 4) hC dX12_areEnds_3 rfl rfl ?_
  refine go_geti (v := (S.1 20)) (pc' := 7) hC 0 20 layM_0 rfl rfl inlX12 (Nat.le_of_ble_eq_true rfl) mw_246 rfl dX12_areEnds_4 rfl rfl ?_
  refine go_iconst (pc' := 8) hC dX12_areEnds_7 ki_1 rfl ?_
  refine go_isub (pc' := 9) hC dX12_areEnds_8 rfl ?_
  refine go_i2l (pc' := 10) hC dX12_areEnds_9 rfl ?_
  obtain ⟨o1, ho1, hf⟩ := bd_e hf
  refine go_callS0 (pc' := 13) (As := [.long p1.toInt64, .long (0 : Int64), .long (((S.1 20) - (1 : Int32)).toInt64)]) (st := []) (st' := [.int o1])    hC dX12_areEnds_10 ⟨mw_525, mw_527, mw_5, yd_yX12_in, yp_yX12_in, Nat.le_of_ble_eq_true rfl, Nat.le_of_ble_eq_true rfl, (Nat.le_of_ble_eq_true rfl), (Nat.le_of_ble_eq_true rfl)⟩ mw_526 rfl rfl (Nat.le_of_ble_eq_true rfl) (c_X12_in (x_l X) (x_D X) (x_q X) g (x_cy X) (x_z X) _ p1.toInt64 (0 : Int64) (((S.1 20) - (1 : Int32)).toInt64) o1 ho1) rfl rfl ?_
  refine go_if_eq (tgt := 41) (pc' := 16) hC dX12_areEnds_13 (by decide) rfl (fun h5 => ?_) (fun h5 => ?_)
  · have hf := ite_t h5 hf
    refine go_iconst (pc' := 42) hC dX12_areEnds_41 ki_0 rfl ?_
    obtain rfl := Option.some.inj hf
    exact go_iret hC hQ dX12_areEnds_42 rfl rfl rfl rfl (fun _ => rfl) rfl rfl
  · have hf := ite_f h5 hf
    refine go_iload_n (pc' := 17) hC dX12_areEnds_16 rfl rfl ?_
    refine go_i2l (pc' := 18) hC dX12_areEnds_17 rfl ?_
    refine go_lconst (pc' := 19) hC dX12_areEnds_18 kl_0 rfl ?_
    refine go_aload_n (pc' := 20) hC dX12_areEnds_19 rfl rfl ?_
    refine go_geti (v := (S.1 20)) (pc' := 23) hC 0 20 layM_0 rfl rfl inlX12 (Nat.le_of_ble_eq_true rfl) mw_246 rfl dX12_areEnds_20 rfl rfl ?_
    refine go_iconst (pc' := 24) hC dX12_areEnds_23 ki_1 rfl ?_
    refine go_isub (pc' := 25) hC dX12_areEnds_24 rfl ?_
    refine go_i2l (pc' := 26) hC dX12_areEnds_25 rfl ?_
    obtain ⟨o2, ho2, hf⟩ := bd_e hf
    refine go_callS0 (pc' := 29) (As := [.long p2.toInt64, .long (0 : Int64), .long (((S.1 20) - (1 : Int32)).toInt64)]) (st := []) (st' := [.int o2])    hC dX12_areEnds_26 ⟨mw_525, mw_527, mw_5, yd_yX12_in, yp_yX12_in, Nat.le_of_ble_eq_true rfl, Nat.le_of_ble_eq_true rfl, (Nat.le_of_ble_eq_true rfl), (Nat.le_of_ble_eq_true rfl)⟩ mw_526 rfl rfl (Nat.le_of_ble_eq_true rfl) (c_X12_in (x_l X) (x_D X) (x_q X) g (x_cy X) (x_z X) _ p2.toInt64 (0 : Int64) (((S.1 20) - (1 : Int32)).toInt64) o2 ho2) rfl rfl ?_
    refine go_if_eq (tgt := 41) (pc' := 32) hC dX12_areEnds_29 (by decide) rfl (fun h4 => ?_) (fun h4 => ?_)
    · have hf := ite_t h4 hf
      refine go_iconst (pc' := 42) hC dX12_areEnds_41 ki_0 rfl ?_
      obtain rfl := Option.some.inj hf
      exact go_iret hC hQ dX12_areEnds_42 rfl rfl rfl rfl (fun _ => rfl) rfl rfl
    · have hf := ite_f h4 hf
      refine go_iload_n (pc' := 33) hC dX12_areEnds_32 rfl rfl ?_
      refine go_iload_n (pc' := 34) hC dX12_areEnds_33 rfl rfl ?_
      refine go_icmp_eq (tgt := 41) (pc' := 37) hC dX12_areEnds_34 (by decide) rfl (fun h3 => ?_) (fun h3 => ?_)
      · have hf := ite_t h3 hf
        refine go_iconst (pc' := 42) hC dX12_areEnds_41 ki_0 rfl ?_
        obtain rfl := Option.some.inj hf
        exact go_iret hC hQ dX12_areEnds_42 rfl rfl rfl rfl (fun _ => rfl) rfl rfl
      · have hf := ite_f h3 hf
        refine go_iconst (pc' := 38) hC dX12_areEnds_37 ki_1 rfl ?_
        refine go_goto (tgt := 42) hC dX12_areEnds_38 (by decide) ?_
        obtain rfl := Option.some.inj hf
        exact go_iret hC hQ dX12_areEnds_42 rfl rfl rfl rfl (fun _ => rfl) rfl rfl
theorem dX12_letter_0 : decode cX12_letter 0 = .ok (.aload_n 0, 1) := by decide +kernel
theorem dX12_letter_1 : decode cX12_letter 1 = .ok (.getfield 306, 3) := by decide +kernel
theorem dX12_letter_4 : decode cX12_letter 4 = .ok (.bipush 6, 2) := by decide +kernel
theorem dX12_letter_6 : decode cX12_letter 6 = .ok (.if_icmp .eq 12, 3) := by decide +kernel
theorem dX12_letter_9 : decode cX12_letter 9 = .ok (.aload_n 0, 1) := by decide +kernel
theorem dX12_letter_10 : decode cX12_letter 10 = .ok (.iload_n 1, 1) := by decide +kernel
theorem dX12_letter_11 : decode cX12_letter 11 = .ok (.iload_n 2, 1) := by decide +kernel
theorem dX12_letter_12 : decode cX12_letter 12 = .ok (.invokevirtual 446, 3) := by decide +kernel
theorem dX12_letter_15 : decode cX12_letter 15 = .ok (.ifCond .ne 5, 3) := by decide +kernel
theorem dX12_letter_18 : decode cX12_letter 18 = .ok (.iconst (-1), 1) := by decide +kernel
theorem dX12_letter_19 : decode cX12_letter 19 = .ok (.ireturn, 1) := by decide +kernel
theorem dX12_letter_20 : decode cX12_letter 20 = .ok (.aload_n 0, 1) := by decide +kernel
theorem dX12_letter_21 : decode cX12_letter 21 = .ok (.getfield 107, 3) := by decide +kernel
theorem dX12_letter_24 : decode cX12_letter 24 = .ok (.aload_n 0, 1) := by decide +kernel
theorem dX12_letter_25 : decode cX12_letter 25 = .ok (.getfield 306, 3) := by decide +kernel
theorem dX12_letter_28 : decode cX12_letter 28 = .ok (.iload_n 1, 1) := by decide +kernel
theorem dX12_letter_29 : decode cX12_letter 29 = .ok (.iastore, 1) := by decide +kernel
theorem dX12_letter_30 : decode cX12_letter 30 = .ok (.aload_n 0, 1) := by decide +kernel
theorem dX12_letter_31 : decode cX12_letter 31 = .ok (.getfield 110, 3) := by decide +kernel
theorem dX12_letter_34 : decode cX12_letter 34 = .ok (.aload_n 0, 1) := by decide +kernel
theorem dX12_letter_35 : decode cX12_letter 35 = .ok (.getfield 306, 3) := by decide +kernel
theorem dX12_letter_38 : decode cX12_letter 38 = .ok (.iload_n 2, 1) := by decide +kernel
theorem dX12_letter_39 : decode cX12_letter 39 = .ok (.iastore, 1) := by decide +kernel
theorem dX12_letter_40 : decode cX12_letter 40 = .ok (.aload_n 0, 1) := by decide +kernel
theorem dX12_letter_41 : decode cX12_letter 41 = .ok (.getfield 113, 3) := by decide +kernel
theorem dX12_letter_44 : decode cX12_letter 44 = .ok (.aload_n 0, 1) := by decide +kernel
theorem dX12_letter_45 : decode cX12_letter 45 = .ok (.getfield 306, 3) := by decide +kernel
theorem dX12_letter_48 : decode cX12_letter 48 = .ok (.iload_n 3, 1) := by decide +kernel
theorem dX12_letter_49 : decode cX12_letter 49 = .ok (.bastore, 1) := by decide +kernel
theorem dX12_letter_50 : decode cX12_letter 50 = .ok (.aload_n 0, 1) := by decide +kernel
theorem dX12_letter_51 : decode cX12_letter 51 = .ok (.dup, 1) := by decide +kernel
theorem dX12_letter_52 : decode cX12_letter 52 = .ok (.getfield 306, 3) := by decide +kernel
theorem dX12_letter_55 : decode cX12_letter 55 = .ok (.iconst 1, 1) := by decide +kernel
theorem dX12_letter_56 : decode cX12_letter 56 = .ok (.iadd, 1) := by decide +kernel
theorem dX12_letter_57 : decode cX12_letter 57 = .ok (.putfield 306, 3) := by decide +kernel
theorem dX12_letter_60 : decode cX12_letter 60 = .ok (.aload_n 0, 1) := by decide +kernel
theorem dX12_letter_61 : decode cX12_letter 61 = .ok (.getfield 306, 3) := by decide +kernel
theorem dX12_letter_64 : decode cX12_letter 64 = .ok (.iconst 1, 1) := by decide +kernel
theorem dX12_letter_65 : decode cX12_letter 65 = .ok (.isub, 1) := by decide +kernel
theorem dX12_letter_66 : decode cX12_letter 66 = .ok (.ireturn, 1) := by decide +kernel
abbrev o_X12_letter : Type := Int32 × Int32 × (Nat → Int32) × (Nat → Int32) × (Nat → Int32)
def f_X12_letter (S : wd_W) (p1 : Int32) (p2 : Int32) (p3 : Int32) : Option o_X12_letter :=
if (S.1 60) = (6 : Int32) then (
some ((-1 : Int32), (S.1 60), (S.2.2.1 32), (S.2.2.1 33), (S.2.2.1 34))) else (
bd (f_X12_areEnds (wd_o S [(60, (S.1 60))] [] [(32, (S.2.2.1 32)), (33, (S.2.2.1 33)), (34, (S.2.2.1 34))] [] []) p1 p2) fun o1 =>
if o1 = 0 then (
some ((-1 : Int32), (S.1 60), (S.2.2.1 32), (S.2.2.1 33), (S.2.2.1 34))) else (
gd (okx (S.1 60) 6) <|
lz (upd (S.2.2.1 32) (S.1 60).toNatClampNeg p1) fun a3 =>
gd (okx (S.1 60) 6) <|
lz (upd (S.2.2.1 33) (S.1 60).toNatClampNeg p2) fun a5 =>
gd (okx (S.1 60) 6) <|
lz (upd (S.2.2.1 34) (S.1 60).toNatClampNeg (vp_nar .boolean p3)) fun a7 =>
lz ((S.1 60) + (1 : Int32)) fun x8 =>
some (x8 - (1 : Int32), x8, a3, a5, a7)))
set_option maxRecDepth 100000 in
set_option maxHeartbeats 4000000 in
theorem c_X12_letter (l : Launch) (D : va_G) (q g : Nat → Nat) (cy : Nat → ClassId) (z : (Nat → Nat) × (Nat → Nat) × Nat) (S : wd_W) (p1 : Int32) (p2 : Int32) (p3 : Int32) (o : o_X12_letter) (hf : f_X12_letter S p1 p2 p3 = some o) : MX layM l yX12_letter cX12_letter 4 (some .int) ({ frames := 2, cells := 0, slots := 0, locals := 47 } : Room) D q g cy z [.ref (q 0), .int p1, .int p2, .int p3] S false (some (.int o.1)) (wd_o S [(60, o.2.1)] [] [(32, o.2.2.1), (33, o.2.2.2.1), (34, o.2.2.2.2)] [] []) 0 0 := by
  refine mx_of (own := RX12) (lc := [(0, .ref (q 0)), (1, .int p1), (2, .int p2), (3, .int p3)]) (by decide +kernel) rfl layM_ok (Nat.le_of_ble_eq_true rfl) rfl ?_
  intro X hXl hXq hXz hC hQ
  subst hXl; subst hXq; subst hXz
  unfold f_X12_letter at hf
  refine go_keys (L1 := [(60, (S.1 60))]) (L2 := []) (L3 := [(32, (S.2.2.1 32)), (33, (S.2.2.1 33)), (34, (S.2.2.1 34))]) (L4 := []) (L5 := []) [60] [] [32, 33, 34] [] [] rfl rfl rfl rfl rfl ?_
  refine go_aload_n (pc' := 1) hC dX12_letter_0 rfl rfl ?_
  refine go_geti (v := (S.1 60)) (pc' := 4) hC 0 60 layM_0 rfl rfl inlX12 (Nat.le_of_ble_eq_true rfl) mw_256 rfl dX12_letter_1 rfl rfl ?_
  refine go_bipush (pc' := 6) hC dX12_letter_4 kb_6 rfl ?_
  refine go_icmp_eq (tgt := 18) (pc' := 9) hC dX12_letter_6 (by decide) rfl (fun h10 => ?_) (fun h10 => ?_)
  · have hf := ite_t h10 hf
    refine go_iconst (pc' := 19) hC dX12_letter_18 ki_m1 rfl ?_
    obtain rfl := Option.some.inj hf
    exact go_iret hC hQ dX12_letter_19 rfl rfl rfl rfl (fun _ => rfl) rfl rfl
  · have hf := ite_f h10 hf
    refine go_aload_n (pc' := 10) hC dX12_letter_9 rfl rfl ?_
    refine go_iload_n (pc' := 11) hC dX12_letter_10 rfl rfl ?_
    refine go_iload_n (pc' := 12) hC dX12_letter_11 rfl rfl ?_
    obtain ⟨o1, ho1, hf⟩ := bd_e hf
    refine go_callV0 (pc' := 15) (As := [.int p1, .int p2]) (st := []) (st' := [.int o1])    (b := 0) hC dX12_letter_12 ⟨mw_1249, mw_1252, mw_5, yd_yX12_areEnds, yp_yX12_areEnds, Nat.le_of_ble_eq_true rfl, Nat.le_of_ble_eq_true rfl, (Nat.le_of_ble_eq_true rfl), (Nat.le_of_ble_eq_true rfl)⟩ mw_1250 mw_1251 layM_0 rfl rfl rfl (Nat.le_of_ble_eq_true rfl) (c_X12_areEnds (x_l X) (x_D X) (x_q X) g (x_cy X) (x_z X) _ p1 p2 o1 ho1) rfl rfl ?_
    refine go_if_ne (tgt := 20) (pc' := 18) hC dX12_letter_15 (by decide) rfl (fun h9 => ?_) (fun h9 => ?_)
    · have hf := ite_f h9 hf
      refine go_aload_n (pc' := 21) hC dX12_letter_20 rfl rfl ?_
      refine go_getq (pc' := 24) hC 0 61 layM_0 rfl rfl inlX12 (Nat.le_of_ble_eq_true rfl) mw_213 rfl dX12_letter_21 rfl ?_
      refine go_aload_n (pc' := 25) hC dX12_letter_24 rfl rfl ?_
      refine go_geti (v := (S.1 60)) (pc' := 28) hC 0 60 layM_0 rfl rfl inlX12 (Nat.le_of_ble_eq_true rfl) mw_256 rfl dX12_letter_25 rfl rfl ?_
      refine go_iload_n (pc' := 29) hC dX12_letter_28 rfl rfl ?_
      obtain ⟨h2, hf⟩ := gd_e hf
      refine go_iast (f := (S.2.2.1 32)) (pc' := 30) hC 32 layM_32 rfl rfl dX12_letter_29 (okx_in h2) rfl rfl (fun a3 ha L3' hL => ?_)
      have hf := lz_r ha hf
      clear ha
      obtain rfl : L3' = [(32, a3), (33, (S.2.2.1 33)), (34, (S.2.2.1 34))] := hL.symm
      refine go_aload_n (pc' := 31) hC dX12_letter_30 rfl rfl ?_
      refine go_getq (pc' := 34) hC 0 62 layM_0 rfl rfl inlX12 (Nat.le_of_ble_eq_true rfl) mw_214 rfl dX12_letter_31 rfl ?_
      refine go_aload_n (pc' := 35) hC dX12_letter_34 rfl rfl ?_
      refine go_geti (v := (S.1 60)) (pc' := 38) hC 0 60 layM_0 rfl rfl inlX12 (Nat.le_of_ble_eq_true rfl) mw_256 rfl dX12_letter_35 rfl rfl ?_
      refine go_iload_n (pc' := 39) hC dX12_letter_38 rfl rfl ?_
      obtain ⟨h4, hf⟩ := gd_e hf
      refine go_iast (f := (S.2.2.1 33)) (pc' := 40) hC 33 layM_33 rfl rfl dX12_letter_39 (okx_in h4) rfl rfl (fun a5 ha L3' hL => ?_)
      have hf := lz_r ha hf
      clear ha
      obtain rfl : L3' = [(32, a3), (33, a5), (34, (S.2.2.1 34))] := hL.symm
      refine go_aload_n (pc' := 41) hC dX12_letter_40 rfl rfl ?_
      refine go_getq (pc' := 44) hC 0 63 layM_0 rfl rfl inlX12 (Nat.le_of_ble_eq_true rfl) mw_215 rfl dX12_letter_41 rfl ?_
      refine go_aload_n (pc' := 45) hC dX12_letter_44 rfl rfl ?_
      refine go_geti (v := (S.1 60)) (pc' := 48) hC 0 60 layM_0 rfl rfl inlX12 (Nat.le_of_ble_eq_true rfl) mw_256 rfl dX12_letter_45 rfl rfl ?_
      refine go_iload_n (pc' := 49) hC dX12_letter_48 rfl rfl ?_
      obtain ⟨h6, hf⟩ := gd_e hf
      refine go_zast (f := (S.2.2.1 34)) (pc' := 50) hC 34 layM_34 rfl rfl dX12_letter_49 (okx_in h6) rfl rfl (fun a7 ha L3' hL => ?_)
      have hf := lz_r ha hf
      clear ha
      obtain rfl : L3' = [(32, a3), (33, a5), (34, a7)] := hL.symm
      refine go_aload_n (pc' := 51) hC dX12_letter_50 rfl rfl ?_
      refine go_dup (pc' := 52) hC dX12_letter_51 rfl rfl ?_
      refine go_geti (v := (S.1 60)) (pc' := 55) hC 0 60 layM_0 rfl rfl inlX12 (Nat.le_of_ble_eq_true rfl) mw_256 rfl dX12_letter_52 rfl rfl ?_
      refine go_iconst (pc' := 56) hC dX12_letter_55 ki_1 rfl ?_
      refine go_iadd (pc' := 57) hC dX12_letter_56 rfl ?_
      refine go_namei (fun x8 hx => ?_)
      have hf := lz_r hx hf
      clear hx
      refine go_puti (L1' := [(60, x8)]) (pc' := 60) hC 0 60 layM_0 rfl rfl inlX12 tyX12_ok nmX12 (Nat.le_of_ble_eq_true rfl) mw_256 rfl rfl rfl rfl dX12_letter_57 rfl rfl rfl ?_
      refine go_aload_n (pc' := 61) hC dX12_letter_60 rfl rfl ?_
      refine go_geti (v := x8) (pc' := 64) hC 0 60 layM_0 rfl rfl inlX12 (Nat.le_of_ble_eq_true rfl) mw_256 rfl dX12_letter_61 rfl rfl ?_
      refine go_iconst (pc' := 65) hC dX12_letter_64 ki_1 rfl ?_
      refine go_isub (pc' := 66) hC dX12_letter_65 rfl ?_
      obtain rfl := Option.some.inj hf
      exact go_iret hC hQ dX12_letter_66 rfl rfl rfl rfl (fun _ => rfl) rfl rfl
    · have hf := ite_t h9 hf
      refine go_iconst (pc' := 19) hC dX12_letter_18 ki_m1 rfl ?_
      obtain rfl := Option.some.inj hf
      exact go_iret hC hQ dX12_letter_19 rfl rfl rfl rfl (fun _ => rfl) rfl rfl
theorem dX12_agrees_0 : decode cX12_agrees 0 = .ok (.aload_n 0, 1) := by decide +kernel
theorem dX12_agrees_1 : decode cX12_agrees 1 = .ok (.iload_n 1, 1) := by decide +kernel
theorem dX12_agrees_2 : decode cX12_agrees 2 = .ok (.iconst 0, 1) := by decide +kernel
theorem dX12_agrees_3 : decode cX12_agrees 3 = .ok (.invokevirtual 337, 3) := by decide +kernel
theorem dX12_agrees_6 : decode cX12_agrees 6 = .ok (.iconst 0, 1) := by decide +kernel
theorem dX12_agrees_7 : decode cX12_agrees 7 = .ok (.istore_n 2, 1) := by decide +kernel
theorem dX12_agrees_8 : decode cX12_agrees 8 = .ok (.iload_n 2, 1) := by decide +kernel
theorem dX12_agrees_9 : decode cX12_agrees 9 = .ok (.aload_n 0, 1) := by decide +kernel
theorem dX12_agrees_10 : decode cX12_agrees 10 = .ok (.getfield 306, 3) := by decide +kernel
theorem dX12_agrees_13 : decode cX12_agrees 13 = .ok (.if_icmp .ge 36, 3) := by decide +kernel
theorem dX12_agrees_16 : decode cX12_agrees 16 = .ok (.aload_n 0, 1) := by decide +kernel
theorem dX12_agrees_17 : decode cX12_agrees 17 = .ok (.aload_n 0, 1) := by decide +kernel
theorem dX12_agrees_18 : decode cX12_agrees 18 = .ok (.getfield 107, 3) := by decide +kernel
theorem dX12_agrees_21 : decode cX12_agrees 21 = .ok (.iload_n 2, 1) := by decide +kernel
theorem dX12_agrees_22 : decode cX12_agrees 22 = .ok (.iaload, 1) := by decide +kernel
theorem dX12_agrees_23 : decode cX12_agrees 23 = .ok (.aload_n 0, 1) := by decide +kernel
theorem dX12_agrees_24 : decode cX12_agrees 24 = .ok (.getfield 110, 3) := by decide +kernel
theorem dX12_agrees_27 : decode cX12_agrees 27 = .ok (.iload_n 2, 1) := by decide +kernel
theorem dX12_agrees_28 : decode cX12_agrees 28 = .ok (.iaload, 1) := by decide +kernel
theorem dX12_agrees_29 : decode cX12_agrees 29 = .ok (.invokevirtual 341, 3) := by decide +kernel
theorem dX12_agrees_32 : decode cX12_agrees 32 = .ok (.aload_n 0, 1) := by decide +kernel
theorem dX12_agrees_33 : decode cX12_agrees 33 = .ok (.getfield 113, 3) := by decide +kernel
theorem dX12_agrees_36 : decode cX12_agrees 36 = .ok (.iload_n 2, 1) := by decide +kernel
theorem dX12_agrees_37 : decode cX12_agrees 37 = .ok (.baload, 1) := by decide +kernel
theorem dX12_agrees_38 : decode cX12_agrees 38 = .ok (.if_icmp .eq 5, 3) := by decide +kernel
theorem dX12_agrees_41 : decode cX12_agrees 41 = .ok (.iconst 0, 1) := by decide +kernel
theorem dX12_agrees_42 : decode cX12_agrees 42 = .ok (.ireturn, 1) := by decide +kernel
theorem dX12_agrees_43 : decode cX12_agrees 43 = .ok (.iinc 2 1, 3) := by decide +kernel
theorem dX12_agrees_46 : decode cX12_agrees 46 = .ok (.goto (-38), 3) := by decide +kernel
theorem dX12_agrees_49 : decode cX12_agrees 49 = .ok (.iconst 1, 1) := by decide +kernel
theorem dX12_agrees_50 : decode cX12_agrees 50 = .ok (.ireturn, 1) := by decide +kernel
abbrev o_X12_agrees : Type := Int32 × Int32 × Int32
def f_X12_agrees_L8 (S : wd_W) (o1 : o_X12_opens) (r3 : (Int32) → (Option o_X12_agrees)) (x2 : Int32) : Option o_X12_agrees :=
if (S.1 60) ≤ x2 then (
some ((1 : Int32), o1.1, o1.2)) else (
gd (okx x2 6) <|
gd (okx x2 6) <|
bd (f_X12_leads (wd_o S [(38, o1.1), (39, o1.2)] [] [] [] []) ((S.2.2.1 32) x2.toNatClampNeg) ((S.2.2.1 33) x2.toNatClampNeg)) fun o6 =>
gd (okx x2 6) <|
if o6 = ((S.2.2.1 34) x2.toNatClampNeg) then (
r3 (x2 + (1 : Int32))) else (
some ((0 : Int32), o1.1, o1.2)))
def f_X12_agrees (S : wd_W) (p1 : Int32) : Option o_X12_agrees :=
bd (f_X12_opens (wd_o S [(38, (S.1 38)), (39, (S.1 39))] [] [] [] []) p1 (0 : Int32)) fun o1 =>
it1 (f_X12_agrees_L8 S o1) fuel (0 : Int32)
set_option maxRecDepth 100000 in
set_option maxHeartbeats 4000000 in
theorem c_X12_agrees (l : Launch) (D : va_G) (q g : Nat → Nat) (cy : Nat → ClassId) (z : (Nat → Nat) × (Nat → Nat) × Nat) (S : wd_W) (p1 : Int32) (o : o_X12_agrees) (hf : f_X12_agrees S p1 = some o) : MX layM l yX12_agrees cX12_agrees 3 (some .boolean) ({ frames := 3, cells := 0, slots := 0, locals := 67 } : Room) D q g cy z [.ref (q 0), .int p1] S false (some (.int o.1)) (wd_o S [(38, o.2.1), (39, o.2.2)] [] [] [] []) 0 0 := by
  refine mx_of (own := RX12) (lc := [(0, .ref (q 0)), (1, .int p1)]) (by decide +kernel) rfl layM_ok (Nat.le_of_ble_eq_true rfl) rfl ?_
  intro X hXl hXq hXz hC hQ
  subst hXl; subst hXq; subst hXz
  unfold f_X12_agrees at hf
  refine go_keys (L1 := [(38, (S.1 38)), (39, (S.1 39))]) (L2 := []) (L3 := []) (L4 := []) (L5 := []) [38, 39] [] [] [] [] rfl rfl rfl rfl rfl ?_
  refine go_aload_n (pc' := 1) hC dX12_agrees_0 rfl rfl ?_
  refine go_iload_n (pc' := 2) hC dX12_agrees_1 rfl rfl ?_
  refine go_iconst (pc' := 3) hC dX12_agrees_2 ki_0 rfl ?_
  obtain ⟨o1, ho1, hf⟩ := bd_e hf
  refine go_callV1 (pc' := 6) (As := [.int p1, .int (0 : Int32)]) (st := []) (st' := []) (L1' := [(38, o1.1), (39, o1.2)]) (L2' := []) (L3' := []) (L4' := []) (L5' := []) (cells' := 0) (slots' := 0)  (b := 0) hC dX12_agrees_3 ⟨mw_868, mw_871, mw_5, yd_yX12_opens, yp_yX12_opens, Nat.le_of_ble_eq_true rfl, Nat.le_of_ble_eq_true rfl, (Nat.le_of_ble_eq_true rfl), (Nat.le_of_ble_eq_true rfl)⟩ mw_869 mw_870 layM_0 rfl rfl rfl (Nat.le_of_ble_eq_true rfl) (c_X12_opens (x_l X) (x_D X) (x_q X) g (x_cy X) (x_z X) _ p1 (0 : Int32) o1 ho1) rfl rfl rfl rfl rfl rfl rfl rfl rfl rfl rfl rfl rfl rfl ?_
  refine go_iconst (pc' := 7) hC dX12_agrees_6 ki_0 rfl ?_
  refine go_istore_n (lc' := [(0, .ref (x_q X 0)), (1, .int p1), (2, .int (0 : Int32))]) (pc' := 8) hC dX12_agrees_7 (Nat.le_of_ble_eq_true rfl) rfl rfl ?_
  have l8_10 : ∀ (nn : Nat) (x2 : Int32), it1 (f_X12_agrees_L8 S o1) nn x2 = some o → Go X layM S 8 [(0, .ref (x_q X 0)), (2, .int x2)] [] g [(38, o1.1), (39, o1.2)] [] [] [] [] 0 0 := by
    intro nn
    induction nn with
    | zero =>
      intro x2 hf
      exact none_no hf
    | succ nn ih =>
      intro x2 hf
      have hf : f_X12_agrees_L8 S o1 (it1 (f_X12_agrees_L8 S o1) nn) x2 = some o := hf
      generalize it1 (f_X12_agrees_L8 S o1) nn = r3 at ih hf
      unfold f_X12_agrees_L8 at hf
      refine go_iload_n (pc' := 9) hC dX12_agrees_8 rfl rfl ?_
      refine go_aload_n (pc' := 10) hC dX12_agrees_9 rfl rfl ?_
      refine go_geti (v := (S.1 60)) (pc' := 13) hC 0 60 layM_0 rfl rfl inlX12 (Nat.le_of_ble_eq_true rfl) mw_256 rfl dX12_agrees_10 rfl rfl ?_
      refine go_icmp_ge (tgt := 49) (pc' := 16) hC dX12_agrees_13 (by decide) rfl (fun h9 => ?_) (fun h9 => ?_)
      · have hf := ite_t h9 hf
        refine go_iconst (pc' := 50) hC dX12_agrees_49 ki_1 rfl ?_
        obtain rfl := Option.some.inj hf
        exact go_iret hC hQ dX12_agrees_50 rfl rfl rfl rfl (fun _ => rfl) rfl rfl
      · have hf := ite_f h9 hf
        refine go_aload_n (pc' := 17) hC dX12_agrees_16 rfl rfl ?_
        refine go_aload_n (pc' := 18) hC dX12_agrees_17 rfl rfl ?_
        refine go_getq (pc' := 21) hC 0 61 layM_0 rfl rfl inlX12 (Nat.le_of_ble_eq_true rfl) mw_213 rfl dX12_agrees_18 rfl ?_
        refine go_iload_n (pc' := 22) hC dX12_agrees_21 rfl rfl ?_
        obtain ⟨h4, hf⟩ := gd_e hf
        refine go_iald (f := (S.2.2.1 32)) (pc' := 23) hC 32 layM_32 rfl rfl dX12_agrees_22 (okx_in h4) rfl ?_
        refine go_aload_n (pc' := 24) hC dX12_agrees_23 rfl rfl ?_
        refine go_getq (pc' := 27) hC 0 62 layM_0 rfl rfl inlX12 (Nat.le_of_ble_eq_true rfl) mw_214 rfl dX12_agrees_24 rfl ?_
        refine go_iload_n (pc' := 28) hC dX12_agrees_27 rfl rfl ?_
        obtain ⟨h5, hf⟩ := gd_e hf
        refine go_iald (f := (S.2.2.1 33)) (pc' := 29) hC 33 layM_33 rfl rfl dX12_agrees_28 (okx_in h5) rfl ?_
        obtain ⟨o6, ho6, hf⟩ := bd_e hf
        refine go_callV0 (pc' := 32) (As := [.int ((S.2.2.1 32) x2.toNatClampNeg), .int ((S.2.2.1 33) x2.toNatClampNeg)]) (st := []) (st' := [.int o6])    (b := 0) hC dX12_agrees_29 ⟨mw_878, mw_881, mw_5, yd_yX12_leads, yp_yX12_leads, Nat.le_of_ble_eq_true rfl, Nat.le_of_ble_eq_true rfl, (Nat.le_of_ble_eq_true rfl), (Nat.le_of_ble_eq_true rfl)⟩ mw_879 mw_880 layM_0 rfl rfl rfl (Nat.le_of_ble_eq_true rfl) (c_X12_leads (x_l X) (x_D X) (x_q X) g (x_cy X) (x_z X) _ ((S.2.2.1 32) x2.toNatClampNeg) ((S.2.2.1 33) x2.toNatClampNeg) o6 ho6) rfl rfl ?_
        refine go_aload_n (pc' := 33) hC dX12_agrees_32 rfl rfl ?_
        refine go_getq (pc' := 36) hC 0 63 layM_0 rfl rfl inlX12 (Nat.le_of_ble_eq_true rfl) mw_215 rfl dX12_agrees_33 rfl ?_
        refine go_iload_n (pc' := 37) hC dX12_agrees_36 rfl rfl ?_
        obtain ⟨h7, hf⟩ := gd_e hf
        refine go_zald (f := (S.2.2.1 34)) (pc' := 38) hC 34 layM_34 rfl rfl dX12_agrees_37 (okx_in h7) rfl ?_
        refine go_icmp_eq (tgt := 43) (pc' := 41) hC dX12_agrees_38 (by decide) rfl (fun h8 => ?_) (fun h8 => ?_)
        · have hf := ite_t h8 hf
          refine go_iinc (lc' := [(0, .ref (x_q X 0)), (2, .int (x2 + (1 : Int32)))]) (pc' := 46) hC dX12_agrees_43 rfl ki_1 (Nat.le_of_ble_eq_true rfl) rfl rfl ?_
          refine go_goto (tgt := 8) hC dX12_agrees_46 (by decide) ?_
          exact ih (x2 + (1 : Int32)) hf
        · have hf := ite_f h8 hf
          refine go_iconst (pc' := 42) hC dX12_agrees_41 ki_0 rfl ?_
          obtain rfl := Option.some.inj hf
          exact go_iret hC hQ dX12_agrees_42 rfl rfl rfl rfl (fun _ => rfl) rfl rfl
  refine go_sub [0, 2] rfl ?_
  exact l8_10 fuel (0 : Int32) hf
theorem dX12_asks_0 : decode cX12_asks 0 = .ok (.aload_n 0, 1) := by decide +kernel
theorem dX12_asks_1 : decode cX12_asks 1 = .ok (.invokevirtual 375, 3) := by decide +kernel
theorem dX12_asks_4 : decode cX12_asks 4 = .ok (.aload_n 0, 1) := by decide +kernel
theorem dX12_asks_5 : decode cX12_asks 5 = .ok (.invokevirtual 364, 3) := by decide +kernel
theorem dX12_asks_8 : decode cX12_asks 8 = .ok (.aload_n 0, 1) := by decide +kernel
theorem dX12_asks_9 : decode cX12_asks 9 = .ok (.lconst 0, 1) := by decide +kernel
theorem dX12_asks_10 : decode cX12_asks 10 = .ok (.putfield 449, 3) := by decide +kernel
theorem dX12_asks_13 : decode cX12_asks 13 = .ok (.iconst 0, 1) := by decide +kernel
theorem dX12_asks_14 : decode cX12_asks 14 = .ok (.istore_n 1, 1) := by decide +kernel
theorem dX12_asks_15 : decode cX12_asks 15 = .ok (.iload_n 1, 1) := by decide +kernel
theorem dX12_asks_16 : decode cX12_asks 16 = .ok (.aload_n 0, 1) := by decide +kernel
theorem dX12_asks_17 : decode cX12_asks 17 = .ok (.getfield 288, 3) := by decide +kernel
theorem dX12_asks_20 : decode cX12_asks 20 = .ok (.if_icmp .ge 16, 3) := by decide +kernel
theorem dX12_asks_23 : decode cX12_asks 23 = .ok (.aload_n 0, 1) := by decide +kernel
theorem dX12_asks_24 : decode cX12_asks 24 = .ok (.getfield 116, 3) := by decide +kernel
theorem dX12_asks_27 : decode cX12_asks 27 = .ok (.iload_n 1, 1) := by decide +kernel
theorem dX12_asks_28 : decode cX12_asks 28 = .ok (.lconst 0, 1) := by decide +kernel
theorem dX12_asks_29 : decode cX12_asks 29 = .ok (.lastore, 1) := by decide +kernel
theorem dX12_asks_30 : decode cX12_asks 30 = .ok (.iinc 1 1, 3) := by decide +kernel
theorem dX12_asks_33 : decode cX12_asks 33 = .ok (.goto (-18), 3) := by decide +kernel
theorem dX12_asks_36 : decode cX12_asks 36 = .ok (.iconst 0, 1) := by decide +kernel
theorem dX12_asks_37 : decode cX12_asks 37 = .ok (.istore_n 1, 1) := by decide +kernel
theorem dX12_asks_38 : decode cX12_asks 38 = .ok (.iload_n 1, 1) := by decide +kernel
theorem dX12_asks_39 : decode cX12_asks 39 = .ok (.aload_n 0, 1) := by decide +kernel
theorem dX12_asks_40 : decode cX12_asks 40 = .ok (.invokevirtual 354, 3) := by decide +kernel
theorem dX12_asks_43 : decode cX12_asks 43 = .ok (.if_icmp .ge 90, 3) := by decide +kernel
theorem dX12_asks_46 : decode cX12_asks 46 = .ok (.aload_n 0, 1) := by decide +kernel
theorem dX12_asks_47 : decode cX12_asks 47 = .ok (.getfield 73, 3) := by decide +kernel
theorem dX12_asks_50 : decode cX12_asks 50 = .ok (.iload_n 1, 1) := by decide +kernel
theorem dX12_asks_51 : decode cX12_asks 51 = .ok (.laload, 1) := by decide +kernel
theorem dX12_asks_52 : decode cX12_asks 52 = .ok (.lconst 0, 1) := by decide +kernel
theorem dX12_asks_53 : decode cX12_asks 53 = .ok (.lcmp, 1) := by decide +kernel
theorem dX12_asks_54 : decode cX12_asks 54 = .ok (.ifCond .eq 73, 3) := by decide +kernel
theorem dX12_asks_57 : decode cX12_asks 57 = .ok (.aload_n 0, 1) := by decide +kernel
theorem dX12_asks_58 : decode cX12_asks 58 = .ok (.iload_n 1, 1) := by decide +kernel
theorem dX12_asks_59 : decode cX12_asks 59 = .ok (.invokevirtual 453, 3) := by decide +kernel
theorem dX12_asks_62 : decode cX12_asks 62 = .ok (.ifCond .ne 6, 3) := by decide +kernel
theorem dX12_asks_65 : decode cX12_asks 65 = .ok (.goto 62, 3) := by decide +kernel
theorem dX12_asks_68 : decode cX12_asks 68 = .ok (.aload_n 0, 1) := by decide +kernel
theorem dX12_asks_69 : decode cX12_asks 69 = .ok (.dup, 1) := by decide +kernel
theorem dX12_asks_70 : decode cX12_asks 70 = .ok (.getfield 449, 3) := by decide +kernel
theorem dX12_asks_73 : decode cX12_asks 73 = .ok (.aload_n 0, 1) := by decide +kernel
theorem dX12_asks_74 : decode cX12_asks 74 = .ok (.getfield 73, 3) := by decide +kernel
theorem dX12_asks_77 : decode cX12_asks 77 = .ok (.iload_n 1, 1) := by decide +kernel
theorem dX12_asks_78 : decode cX12_asks 78 = .ok (.laload, 1) := by decide +kernel
theorem dX12_asks_79 : decode cX12_asks 79 = .ok (.ladd, 1) := by decide +kernel
theorem dX12_asks_80 : decode cX12_asks 80 = .ok (.putfield 449, 3) := by decide +kernel
theorem dX12_asks_83 : decode cX12_asks 83 = .ok (.iconst 0, 1) := by decide +kernel
theorem dX12_asks_84 : decode cX12_asks 84 = .ok (.istore_n 2, 1) := by decide +kernel
theorem dX12_asks_85 : decode cX12_asks 85 = .ok (.iload_n 2, 1) := by decide +kernel
theorem dX12_asks_86 : decode cX12_asks 86 = .ok (.aload_n 0, 1) := by decide +kernel
theorem dX12_asks_87 : decode cX12_asks 87 = .ok (.getfield 288, 3) := by decide +kernel
theorem dX12_asks_90 : decode cX12_asks 90 = .ok (.if_icmp .ge 37, 3) := by decide +kernel
theorem dX12_asks_93 : decode cX12_asks 93 = .ok (.aload_n 0, 1) := by decide +kernel
theorem dX12_asks_94 : decode cX12_asks 94 = .ok (.getfield 116, 3) := by decide +kernel
theorem dX12_asks_97 : decode cX12_asks 97 = .ok (.iload_n 2, 1) := by decide +kernel
theorem dX12_asks_98 : decode cX12_asks 98 = .ok (.dup2, 1) := by decide +kernel
theorem dX12_asks_99 : decode cX12_asks 99 = .ok (.laload, 1) := by decide +kernel
theorem dX12_asks_100 : decode cX12_asks 100 = .ok (.iload_n 1, 1) := by decide +kernel
theorem dX12_asks_101 : decode cX12_asks 101 = .ok (.iload_n 2, 1) := by decide +kernel
theorem dX12_asks_102 : decode cX12_asks 102 = .ok (.ishr, 1) := by decide +kernel
theorem dX12_asks_103 : decode cX12_asks 103 = .ok (.iconst 1, 1) := by decide +kernel
theorem dX12_asks_104 : decode cX12_asks 104 = .ok (.iand, 1) := by decide +kernel
theorem dX12_asks_105 : decode cX12_asks 105 = .ok (.iconst 1, 1) := by decide +kernel
theorem dX12_asks_106 : decode cX12_asks 106 = .ok (.if_icmp .ne 12, 3) := by decide +kernel
theorem dX12_asks_109 : decode cX12_asks 109 = .ok (.aload_n 0, 1) := by decide +kernel
theorem dX12_asks_110 : decode cX12_asks 110 = .ok (.getfield 73, 3) := by decide +kernel
theorem dX12_asks_113 : decode cX12_asks 113 = .ok (.iload_n 1, 1) := by decide +kernel
theorem dX12_asks_114 : decode cX12_asks 114 = .ok (.laload, 1) := by decide +kernel
theorem dX12_asks_115 : decode cX12_asks 115 = .ok (.goto 4, 3) := by decide +kernel
theorem dX12_asks_118 : decode cX12_asks 118 = .ok (.lconst 0, 1) := by decide +kernel
theorem dX12_asks_119 : decode cX12_asks 119 = .ok (.ladd, 1) := by decide +kernel
theorem dX12_asks_120 : decode cX12_asks 120 = .ok (.lastore, 1) := by decide +kernel
theorem dX12_asks_121 : decode cX12_asks 121 = .ok (.iinc 2 1, 3) := by decide +kernel
theorem dX12_asks_124 : decode cX12_asks 124 = .ok (.goto (-39), 3) := by decide +kernel
theorem dX12_asks_127 : decode cX12_asks 127 = .ok (.iinc 1 1, 3) := by decide +kernel
theorem dX12_asks_130 : decode cX12_asks 130 = .ok (.goto (-92), 3) := by decide +kernel
theorem dX12_asks_133 : decode cX12_asks 133 = .ok (.return_, 1) := by decide +kernel
abbrev o_X12_asks : Type := Int32 × Int32 × Int64 × (Nat → Int32) × (Nat → Int32) × (Nat → Int64) × (Nat → Int64)
def f_X12_asks_L85 (S : wd_W) (o2 : o_X12_weighs) (x5 : Int32) (k127_17 : (Int32) → (Int32) → (Int64) → (Nat → Int64) → (Option o_X12_asks)) (o18 : o_X12_agrees) (x20 : Int64) (r23 : (Int32) → (Nat → Int64) → (Option o_X12_asks)) (x21 : Int32) (a22 : Nat → Int64) : Option o_X12_asks :=
if (S.1 32) ≤ x21 then (
k127_17 o18.2.1 o18.2.2 x20 a22) else (
gd (okx x21 15) <|
lk (fun x25 x26 x27 =>
lz (x26 + x25) fun x29 =>
gd (okx x27 15) <|
lz (vp_updL a22 x27.toNatClampNeg x29) fun a31 =>
r23 (x21 + (1 : Int32)) a31) fun k119_28 =>
if ((x5 >>> (x21 &&& 31)) &&& (1 : Int32)) = (1 : Int32) then (
gd (okx x5 32768) <|
k119_28 (o2 x5.toNatClampNeg) (a22 x21.toNatClampNeg) x21) else (
k119_28 (0 : Int64) (a22 x21.toNatClampNeg) x21))
def f_X12_asks_L38 (S : wd_W) (o1 : o_X12_plain) (o2 : o_X12_weighs) (r10 : (Int32) → (Int32) → (Int32) → (Int64) → (Nat → Int64) → (Option o_X12_asks)) (x5 : Int32) (x6 : Int32) (x7 : Int32) (x8 : Int64) (a9 : Nat → Int64) : Option o_X12_asks :=
bd (f_X12_sets (wd_o S [(38, x6), (39, x7)] [(64, x8)] [(22, o1.1), (23, o1.2)] [(21, o2), (35, a9)] [])) fun o11 =>
if o11 ≤ x5 then (
some (x6, x7, x8, o1.1, o1.2, o2, a9)) else (
gd (okx x5 32768) <|
lk (fun x13 x14 x15 a16 =>
r10 (x5 + (1 : Int32)) x13 x14 x15 a16) fun k127_17 =>
if (o2 x5.toNatClampNeg) = (0 : Int64) then (
k127_17 x6 x7 x8 a9) else (
bd (f_X12_agrees (wd_o S [(38, x6), (39, x7)] [(64, x8)] [(22, o1.1), (23, o1.2)] [(21, o2), (35, a9)] []) x5) fun o18 =>
if o18.1 = 0 then (
k127_17 o18.2.1 o18.2.2 x8 a9) else (
gd (okx x5 32768) <|
lz (x8 + (o2 x5.toNatClampNeg)) fun x20 =>
it2 (f_X12_asks_L85 S o2 x5 k127_17 o18 x20) fuel (0 : Int32) a9)))
def f_X12_asks_L15 (S : wd_W) (k36_4 : (Nat → Int64) → (Option o_X12_asks)) (r42 : (Int32) → (Nat → Int64) → (Option o_X12_asks)) (x40 : Int32) (a41 : Nat → Int64) : Option o_X12_asks :=
if (S.1 32) ≤ x40 then (
k36_4 a41) else (
gd (okx x40 15) <|
lz (vp_updL a41 x40.toNatClampNeg (0 : Int64)) fun a44 =>
r42 (x40 + (1 : Int32)) a44)
def f_X12_asks (S : wd_W) : Option o_X12_asks :=
bd (f_X12_plain (wd_o S [(38, (S.1 38)), (39, (S.1 39))] [(64, (S.2.1 64))] [(22, (S.2.2.1 22)), (23, (S.2.2.1 23))] [(21, (S.2.2.2.1 21)), (35, (S.2.2.2.1 35))] [])) fun o1 =>
bd (f_X12_weighs (wd_o S [(38, (S.1 38)), (39, (S.1 39))] [(64, (S.2.1 64))] [(22, o1.1), (23, o1.2)] [(21, (S.2.2.2.1 21)), (35, (S.2.2.2.1 35))] [])) fun o2 =>
lk (fun a3 =>
it5 (f_X12_asks_L38 S o1 o2) fuel (0 : Int32) (S.1 38) (S.1 39) (0 : Int64) a3) fun k36_4 =>
it2 (f_X12_asks_L15 S k36_4) fuel (0 : Int32) (S.2.2.2.1 35)
set_option maxRecDepth 100000 in
set_option maxHeartbeats 4000000 in
theorem c_X12_asks (l : Launch) (D : va_G) (q g : Nat → Nat) (cy : Nat → ClassId) (z : (Nat → Nat) × (Nat → Nat) × Nat) (S : wd_W) (o : o_X12_asks) (hf : f_X12_asks S = some o) : MX layM l yX12_asks cX12_asks 3 none ({ frames := 4, cells := 0, slots := 0, locals := 89 } : Room) D q g cy z [.ref (q 0)] S false (none) (wd_o S [(38, o.1), (39, o.2.1)] [(64, o.2.2.1)] [(22, o.2.2.2.1), (23, o.2.2.2.2.1)] [(21, o.2.2.2.2.2.1), (35, o.2.2.2.2.2.2)] []) 0 0 := by
  refine mx_of (own := RX12) (lc := [(0, .ref (q 0))]) (by decide +kernel) rfl layM_ok (Nat.le_of_ble_eq_true rfl) rfl ?_
  intro X hXl hXq hXz hC hQ
  subst hXl; subst hXq; subst hXz
  unfold f_X12_asks at hf
  refine go_keys (L1 := [(38, (S.1 38)), (39, (S.1 39))]) (L2 := [(64, (S.2.1 64))]) (L3 := [(22, (S.2.2.1 22)), (23, (S.2.2.1 23))]) (L4 := [(21, (S.2.2.2.1 21)), (35, (S.2.2.2.1 35))]) (L5 := []) [38, 39] [64] [22, 23] [21, 35] [] rfl rfl rfl rfl rfl ?_
  refine go_aload_n (pc' := 1) hC dX12_asks_0 rfl rfl ?_
  obtain ⟨o1, ho1, hf⟩ := bd_e hf
  refine go_callV1 (pc' := 4) (As := []) (st := []) (st' := []) (L1' := [(38, (S.1 38)), (39, (S.1 39))]) (L2' := [(64, (S.2.1 64))]) (L3' := [(22, o1.1), (23, o1.2)]) (L4' := [(21, (S.2.2.2.1 21)), (35, (S.2.2.2.1 35))]) (L5' := []) (cells' := 0) (slots' := 0)  (b := 0) hC dX12_asks_1 ⟨mw_927, mw_930, mw_5, yd_yX12_plain, yp_yX12_plain, Nat.le_of_ble_eq_true rfl, Nat.le_of_ble_eq_true rfl, (Nat.le_of_ble_eq_true rfl), (Nat.le_of_ble_eq_true rfl)⟩ mw_928 mw_929 layM_0 rfl rfl rfl (Nat.le_of_ble_eq_true rfl) (c_X12_plain (x_l X) (x_D X) (x_q X) g (x_cy X) (x_z X) _  o1 ho1) rfl rfl rfl rfl rfl rfl rfl rfl rfl rfl rfl rfl rfl rfl ?_
  refine go_aload_n (pc' := 5) hC dX12_asks_4 rfl rfl ?_
  obtain ⟨o2, ho2, hf⟩ := bd_e hf
  refine go_callV1 (pc' := 8) (As := []) (st := []) (st' := []) (L1' := [(38, (S.1 38)), (39, (S.1 39))]) (L2' := [(64, (S.2.1 64))]) (L3' := [(22, o1.1), (23, o1.2)]) (L4' := [(21, o2), (35, (S.2.2.2.1 35))]) (L5' := []) (cells' := 0) (slots' := 0)  (b := 0) hC dX12_asks_5 ⟨mw_935, mw_938, mw_5, yd_yX12_weighs, yp_yX12_weighs, Nat.le_of_ble_eq_true rfl, Nat.le_of_ble_eq_true rfl, (Nat.le_of_ble_eq_true rfl), (Nat.le_of_ble_eq_true rfl)⟩ mw_936 mw_937 layM_0 rfl rfl rfl (Nat.le_of_ble_eq_true rfl) (c_X12_weighs (x_l X) (x_D X) (x_q X) g (x_cy X) (x_z X) _  o2 ho2) rfl rfl rfl rfl rfl rfl rfl rfl rfl rfl rfl rfl rfl rfl ?_
  refine go_aload_n (pc' := 9) hC dX12_asks_8 rfl rfl ?_
  refine go_lconst (pc' := 10) hC dX12_asks_9 kl_0 rfl ?_
  refine go_putl (L2' := [(64, (0 : Int64))]) (pc' := 13) hC 0 64 layM_0 rfl rfl inlX12 tyX12_ok nmX12 (Nat.le_of_ble_eq_true rfl) mw_1272 rfl rfl rfl rfl dX12_asks_10 rfl rfl rfl ?_
  refine go_iconst (pc' := 14) hC dX12_asks_13 ki_0 rfl ?_
  refine go_istore_n (lc' := [(0, .ref (x_q X 0)), (1, .int (0 : Int32))]) (pc' := 15) hC dX12_asks_14 (Nat.le_of_ble_eq_true rfl) rfl rfl ?_
  obtain ⟨k36_4, hk36_4, hf⟩ := lk_e1 hf
  have jk36_4 : ∀ (a3 : Nat → Int64), k36_4 a3 = some o → Go X layM S 36 [(0, .ref (x_q X 0))] [] g [(38, (S.1 38)), (39, (S.1 39))] [(64, (0 : Int64))] [(22, o1.1), (23, o1.2)] [(21, o2), (35, a3)] [] 0 0 := by
    intro a3 hf
    have hf := hk36_4 a3 hf
    clear hk36_4
    refine go_iconst (pc' := 37) hC dX12_asks_36 ki_0 rfl ?_
    refine go_istore_n (lc' := [(0, .ref (x_q X 0)), (1, .int (0 : Int32))]) (pc' := 38) hC dX12_asks_37 (Nat.le_of_ble_eq_true rfl) rfl rfl ?_
    have l38_39 : ∀ (nn : Nat) (x5 : Int32) (x6 : Int32) (x7 : Int32) (x8 : Int64) (a9 : Nat → Int64), it5 (f_X12_asks_L38 S o1 o2) nn x5 x6 x7 x8 a9 = some o → Go X layM S 38 [(0, .ref (x_q X 0)), (1, .int x5)] [] g [(38, x6), (39, x7)] [(64, x8)] [(22, o1.1), (23, o1.2)] [(21, o2), (35, a9)] [] 0 0 := by
      intro nn
      induction nn with
      | zero =>
        intro x5 x6 x7 x8 a9 hf
        exact none_no hf
      | succ nn ih =>
        intro x5 x6 x7 x8 a9 hf
        have hf : f_X12_asks_L38 S o1 o2 (it5 (f_X12_asks_L38 S o1 o2) nn) x5 x6 x7 x8 a9 = some o := hf
        generalize it5 (f_X12_asks_L38 S o1 o2) nn = r10 at ih hf
        unfold f_X12_asks_L38 at hf
        refine go_iload_n (pc' := 39) hC dX12_asks_38 rfl rfl ?_
        refine go_aload_n (pc' := 40) hC dX12_asks_39 rfl rfl ?_
        obtain ⟨o11, ho11, hf⟩ := bd_e hf
        refine go_callV0 (pc' := 43) (As := []) (st := [.int x5]) (st' := [.int o11, .int x5])    (b := 0) hC dX12_asks_40 ⟨mw_856, mw_859, mw_5, yd_yX12_sets, yp_yX12_sets, Nat.le_of_ble_eq_true rfl, Nat.le_of_ble_eq_true rfl, (Nat.le_of_ble_eq_true rfl), (Nat.le_of_ble_eq_true rfl)⟩ mw_857 mw_858 layM_0 rfl rfl rfl (Nat.le_of_ble_eq_true rfl) (c_X12_sets (x_l X) (x_D X) (x_q X) g (x_cy X) (x_z X) _  o11 ho11) rfl rfl ?_
        refine go_icmp_ge (tgt := 133) (pc' := 46) hC dX12_asks_43 (by decide) rfl (fun h38 => ?_) (fun h38 => ?_)
        · have hf := ite_t h38 hf
          obtain rfl := Option.some.inj hf
          exact go_vret hC hQ dX12_asks_133 rfl rfl rfl (fun _ => rfl) rfl rfl
        · have hf := ite_f h38 hf
          refine go_aload_n (pc' := 47) hC dX12_asks_46 rfl rfl ?_
          refine go_getq (pc' := 50) hC 0 45 layM_0 rfl rfl inlX12 (Nat.le_of_ble_eq_true rfl) mw_202 rfl dX12_asks_47 rfl ?_
          refine go_iload_n (pc' := 51) hC dX12_asks_50 rfl rfl ?_
          obtain ⟨h12, hf⟩ := gd_e hf
          refine go_lald (f := o2) (pc' := 52) hC 21 layM_21 rfl rfl dX12_asks_51 (okx_in h12) rfl ?_
          refine go_lconst (pc' := 53) hC dX12_asks_52 kl_0 rfl ?_
          refine go_lcmp (pc' := 54) hC dX12_asks_53 rfl ?_
          obtain ⟨k127_17, hk127_17, hf⟩ := lk_e4 hf
          have jk127_17 : ∀ (x13 : Int32) (x14 : Int32) (x15 : Int64) (a16 : Nat → Int64), k127_17 x13 x14 x15 a16 = some o → Go X layM S 127 [(0, .ref (x_q X 0)), (1, .int x5)] [] g [(38, x13), (39, x14)] [(64, x15)] [(22, o1.1), (23, o1.2)] [(21, o2), (35, a16)] [] 0 0 := by
            intro x13 x14 x15 a16 hf
            have hf := hk127_17 x13 x14 x15 a16 hf
            clear hk127_17
            refine go_iinc (lc' := [(0, .ref (x_q X 0)), (1, .int (x5 + (1 : Int32)))]) (pc' := 130) hC dX12_asks_127 rfl ki_1 (Nat.le_of_ble_eq_true rfl) rfl rfl ?_
            refine go_goto (tgt := 38) hC dX12_asks_130 (by decide) ?_
            exact ih (x5 + (1 : Int32)) x13 x14 x15 a16 hf
          clear hk127_17
          refine go_if_eq (tgt := 127) (pc' := 57) hC dX12_asks_54 (by decide) rfl (fun h37 => ?_) (fun h37 => ?_)
          · have hf := ite_t (lg_eq.mp h37) hf
            exact jk127_17 x6 x7 x8 a9 hf
          · have hf := ite_f (mt lg_eq.mpr h37) hf
            refine go_aload_n (pc' := 58) hC dX12_asks_57 rfl rfl ?_
            refine go_iload_n (pc' := 59) hC dX12_asks_58 rfl rfl ?_
            obtain ⟨o18, ho18, hf⟩ := bd_e hf
            refine go_callV1 (pc' := 62) (As := [.int x5]) (st := []) (st' := [.int o18.1]) (L1' := [(38, o18.2.1), (39, o18.2.2)]) (L2' := [(64, x8)]) (L3' := [(22, o1.1), (23, o1.2)]) (L4' := [(21, o2), (35, a9)]) (L5' := []) (cells' := 0) (slots' := 0)  (b := 0) hC dX12_asks_59 ⟨mw_1277, mw_1280, mw_5, yd_yX12_agrees, yp_yX12_agrees, Nat.le_of_ble_eq_true rfl, Nat.le_of_ble_eq_true rfl, (Nat.le_of_ble_eq_true rfl), (Nat.le_of_ble_eq_true rfl)⟩ mw_1278 mw_1279 layM_0 rfl rfl rfl (Nat.le_of_ble_eq_true rfl) (c_X12_agrees (x_l X) (x_D X) (x_q X) g (x_cy X) (x_z X) _ x5 o18 ho18) rfl rfl rfl rfl rfl rfl rfl rfl rfl rfl rfl rfl rfl rfl ?_
            refine go_if_ne (tgt := 68) (pc' := 65) hC dX12_asks_62 (by decide) rfl (fun h36 => ?_) (fun h36 => ?_)
            · have hf := ite_f h36 hf
              refine go_aload_n (pc' := 69) hC dX12_asks_68 rfl rfl ?_
              refine go_dup (pc' := 70) hC dX12_asks_69 rfl rfl ?_
              refine go_getl (v := x8) (pc' := 73) hC 0 64 layM_0 rfl rfl inlX12 (Nat.le_of_ble_eq_true rfl) mw_1272 rfl dX12_asks_70 rfl rfl ?_
              refine go_aload_n (pc' := 74) hC dX12_asks_73 rfl rfl ?_
              refine go_getq (pc' := 77) hC 0 45 layM_0 rfl rfl inlX12 (Nat.le_of_ble_eq_true rfl) mw_202 rfl dX12_asks_74 rfl ?_
              refine go_iload_n (pc' := 78) hC dX12_asks_77 rfl rfl ?_
              obtain ⟨h19, hf⟩ := gd_e hf
              refine go_lald (f := o2) (pc' := 79) hC 21 layM_21 rfl rfl dX12_asks_78 (okx_in h19) rfl ?_
              refine go_ladd (pc' := 80) hC dX12_asks_79 rfl ?_
              refine go_namel (fun x20 hx => ?_)
              have hf := lz_r hx hf
              clear hx
              refine go_putl (L2' := [(64, x20)]) (pc' := 83) hC 0 64 layM_0 rfl rfl inlX12 tyX12_ok nmX12 (Nat.le_of_ble_eq_true rfl) mw_1272 rfl rfl rfl rfl dX12_asks_80 rfl rfl rfl ?_
              refine go_iconst (pc' := 84) hC dX12_asks_83 ki_0 rfl ?_
              refine go_istore_n (lc' := [(0, .ref (x_q X 0)), (1, .int x5), (2, .int (0 : Int32))]) (pc' := 85) hC dX12_asks_84 (Nat.le_of_ble_eq_true rfl) rfl rfl ?_
              have l85_35 : ∀ (nn : Nat) (x21 : Int32) (a22 : Nat → Int64), it2 (f_X12_asks_L85 S o2 x5 k127_17 o18 x20) nn x21 a22 = some o → Go X layM S 85 [(0, .ref (x_q X 0)), (1, .int x5), (2, .int x21)] [] g [(38, o18.2.1), (39, o18.2.2)] [(64, x20)] [(22, o1.1), (23, o1.2)] [(21, o2), (35, a22)] [] 0 0 := by
                intro nn
                induction nn with
                | zero =>
                  intro x21 a22 hf
                  exact none_no hf
                | succ nn ih =>
                  intro x21 a22 hf
                  have hf : f_X12_asks_L85 S o2 x5 k127_17 o18 x20 (it2 (f_X12_asks_L85 S o2 x5 k127_17 o18 x20) nn) x21 a22 = some o := hf
                  generalize it2 (f_X12_asks_L85 S o2 x5 k127_17 o18 x20) nn = r23 at ih hf
                  unfold f_X12_asks_L85 at hf
                  refine go_iload_n (pc' := 86) hC dX12_asks_85 rfl rfl ?_
                  refine go_aload_n (pc' := 87) hC dX12_asks_86 rfl rfl ?_
                  refine go_geti (v := (S.1 32)) (pc' := 90) hC 0 32 layM_0 rfl rfl inlX12 (Nat.le_of_ble_eq_true rfl) mw_250 rfl dX12_asks_87 rfl rfl ?_
                  refine go_icmp_ge (tgt := 127) (pc' := 93) hC dX12_asks_90 (by decide) rfl (fun h34 => ?_) (fun h34 => ?_)
                  · have hf := ite_t h34 hf
                    refine go_sub [0, 1] rfl ?_
                    exact jk127_17 o18.2.1 o18.2.2 x20 a22 hf
                  · have hf := ite_f h34 hf
                    refine go_aload_n (pc' := 94) hC dX12_asks_93 rfl rfl ?_
                    refine go_getq (pc' := 97) hC 0 65 layM_0 rfl rfl inlX12 (Nat.le_of_ble_eq_true rfl) mw_216 rfl dX12_asks_94 rfl ?_
                    refine go_iload_n (pc' := 98) hC dX12_asks_97 rfl rfl ?_
                    refine go_dup2 (pc' := 99) hC dX12_asks_98 rfl rfl rfl ?_
                    obtain ⟨h24, hf⟩ := gd_e hf
                    refine go_lald (f := a22) (pc' := 100) hC 35 layM_35 rfl rfl dX12_asks_99 (okx_in h24) rfl ?_
                    refine go_iload_n (pc' := 101) hC dX12_asks_100 rfl rfl ?_
                    refine go_iload_n (pc' := 102) hC dX12_asks_101 rfl rfl ?_
                    refine go_ishr (pc' := 103) hC dX12_asks_102 rfl ?_
                    refine go_iconst (pc' := 104) hC dX12_asks_103 ki_1 rfl ?_
                    refine go_iand (pc' := 105) hC dX12_asks_104 rfl ?_
                    refine go_iconst (pc' := 106) hC dX12_asks_105 ki_1 rfl ?_
                    obtain ⟨k119_28, hk119_28, hf⟩ := lk_e3 hf
                    have jk119_28 : ∀ (x25 : Int64) (x26 : Int64) (x27 : Int32), k119_28 x25 x26 x27 = some o → Go X layM S 119 [(0, .ref (x_q X 0)), (1, .int x5), (2, .int x21)] [.long x25, .long x26, .int x27, .ref (x_q X 35)] g [(38, o18.2.1), (39, o18.2.2)] [(64, x20)] [(22, o1.1), (23, o1.2)] [(21, o2), (35, a22)] [] 0 0 := by
                      intro x25 x26 x27 hf
                      have hf := hk119_28 x25 x26 x27 hf
                      clear hk119_28
                      refine go_ladd (pc' := 120) hC dX12_asks_119 rfl ?_
                      refine go_namel (fun x29 hx => ?_)
                      have hf := lz_r hx hf
                      clear hx
                      obtain ⟨h30, hf⟩ := gd_e hf
                      refine go_last (f := a22) (pc' := 121) hC 35 layM_35 rfl rfl dX12_asks_120 (okx_in h30) rfl rfl (fun a31 ha L4' hL => ?_)
                      have hf := lz_r ha hf
                      clear ha
                      obtain rfl : L4' = [(21, o2), (35, a31)] := hL.symm
                      refine go_iinc (lc' := [(0, .ref (x_q X 0)), (1, .int x5), (2, .int (x21 + (1 : Int32)))]) (pc' := 124) hC dX12_asks_121 rfl ki_1 (Nat.le_of_ble_eq_true rfl) rfl rfl ?_
                      refine go_goto (tgt := 85) hC dX12_asks_124 (by decide) ?_
                      exact ih (x21 + (1 : Int32)) a31 hf
                    clear hk119_28
                    refine go_icmp_ne (tgt := 118) (pc' := 109) hC dX12_asks_106 (by decide) rfl (fun h33 => ?_) (fun h33 => ?_)
                    · have hf := ite_f h33 hf
                      refine go_lconst (pc' := 119) hC dX12_asks_118 kl_0 rfl ?_
                      exact jk119_28 (0 : Int64) (a22 x21.toNatClampNeg) x21 hf
                    · have hf := ite_t h33 hf
                      refine go_aload_n (pc' := 110) hC dX12_asks_109 rfl rfl ?_
                      refine go_getq (pc' := 113) hC 0 45 layM_0 rfl rfl inlX12 (Nat.le_of_ble_eq_true rfl) mw_202 rfl dX12_asks_110 rfl ?_
                      refine go_iload_n (pc' := 114) hC dX12_asks_113 rfl rfl ?_
                      obtain ⟨h32, hf⟩ := gd_e hf
                      refine go_lald (f := o2) (pc' := 115) hC 21 layM_21 rfl rfl dX12_asks_114 (okx_in h32) rfl ?_
                      refine go_goto (tgt := 119) hC dX12_asks_115 (by decide) ?_
                      exact jk119_28 (o2 x5.toNatClampNeg) (a22 x21.toNatClampNeg) x21 hf
              exact l85_35 fuel (0 : Int32) a9 hf
            · have hf := ite_t h36 hf
              refine go_goto (tgt := 127) hC dX12_asks_65 (by decide) ?_
              exact jk127_17 o18.2.1 o18.2.2 x8 a9 hf
    exact l38_39 fuel (0 : Int32) (S.1 38) (S.1 39) (0 : Int64) a3 hf
  clear hk36_4
  have l15_46 : ∀ (nn : Nat) (x40 : Int32) (a41 : Nat → Int64), it2 (f_X12_asks_L15 S k36_4) nn x40 a41 = some o → Go X layM S 15 [(0, .ref (x_q X 0)), (1, .int x40)] [] g [(38, (S.1 38)), (39, (S.1 39))] [(64, (0 : Int64))] [(22, o1.1), (23, o1.2)] [(21, o2), (35, a41)] [] 0 0 := by
    intro nn
    induction nn with
    | zero =>
      intro x40 a41 hf
      exact none_no hf
    | succ nn ih =>
      intro x40 a41 hf
      have hf : f_X12_asks_L15 S k36_4 (it2 (f_X12_asks_L15 S k36_4) nn) x40 a41 = some o := hf
      generalize it2 (f_X12_asks_L15 S k36_4) nn = r42 at ih hf
      unfold f_X12_asks_L15 at hf
      refine go_iload_n (pc' := 16) hC dX12_asks_15 rfl rfl ?_
      refine go_aload_n (pc' := 17) hC dX12_asks_16 rfl rfl ?_
      refine go_geti (v := (S.1 32)) (pc' := 20) hC 0 32 layM_0 rfl rfl inlX12 (Nat.le_of_ble_eq_true rfl) mw_250 rfl dX12_asks_17 rfl rfl ?_
      refine go_icmp_ge (tgt := 36) (pc' := 23) hC dX12_asks_20 (by decide) rfl (fun h45 => ?_) (fun h45 => ?_)
      · have hf := ite_t h45 hf
        refine go_sub [0] rfl ?_
        exact jk36_4 a41 hf
      · have hf := ite_f h45 hf
        refine go_aload_n (pc' := 24) hC dX12_asks_23 rfl rfl ?_
        refine go_getq (pc' := 27) hC 0 65 layM_0 rfl rfl inlX12 (Nat.le_of_ble_eq_true rfl) mw_216 rfl dX12_asks_24 rfl ?_
        refine go_iload_n (pc' := 28) hC dX12_asks_27 rfl rfl ?_
        refine go_lconst (pc' := 29) hC dX12_asks_28 kl_0 rfl ?_
        obtain ⟨h43, hf⟩ := gd_e hf
        refine go_last (f := a41) (pc' := 30) hC 35 layM_35 rfl rfl dX12_asks_29 (okx_in h43) rfl rfl (fun a44 ha L4' hL => ?_)
        have hf := lz_r ha hf
        clear ha
        obtain rfl : L4' = [(21, o2), (35, a44)] := hL.symm
        refine go_iinc (lc' := [(0, .ref (x_q X 0)), (1, .int (x40 + (1 : Int32)))]) (pc' := 33) hC dX12_asks_30 rfl ki_1 (Nat.le_of_ble_eq_true rfl) rfl rfl ?_
        refine go_goto (tgt := 15) hC dX12_asks_33 (by decide) ?_
        exact ih (x40 + (1 : Int32)) a44 hf
  exact l15_46 fuel (0 : Int32) (S.2.2.2.1 35) hf
theorem dX12_thought_0 : decode cX12_thought 0 = .ok (.aload_n 0, 1) := by decide +kernel
theorem dX12_thought_1 : decode cX12_thought 1 = .ok (.iload_n 1, 1) := by decide +kernel
theorem dX12_thought_2 : decode cX12_thought 2 = .ok (.invokevirtual 382, 3) := by decide +kernel
theorem dX12_thought_5 : decode cX12_thought 5 = .ok (.ifCond .eq 13, 3) := by decide +kernel
theorem dX12_thought_8 : decode cX12_thought 8 = .ok (.iload_n 2, 1) := by decide +kernel
theorem dX12_thought_9 : decode cX12_thought 9 = .ok (.i2l, 1) := by decide +kernel
theorem dX12_thought_10 : decode cX12_thought 10 = .ok (.lconst 0, 1) := by decide +kernel
theorem dX12_thought_11 : decode cX12_thought 11 = .ok (.lconst 1, 1) := by decide +kernel
theorem dX12_thought_12 : decode cX12_thought 12 = .ok (.invokestatic 218, 3) := by decide +kernel
theorem dX12_thought_15 : decode cX12_thought 15 = .ok (.ifCond .ne 7, 3) := by decide +kernel
theorem dX12_thought_18 : decode cX12_thought 18 = .ok (.ldc2_w 373, 3) := by decide +kernel
theorem dX12_thought_21 : decode cX12_thought 21 = .ok (.lreturn, 1) := by decide +kernel
theorem dX12_thought_22 : decode cX12_thought 22 = .ok (.aload_n 0, 1) := by decide +kernel
theorem dX12_thought_23 : decode cX12_thought 23 = .ok (.invokevirtual 456, 3) := by decide +kernel
theorem dX12_thought_26 : decode cX12_thought 26 = .ok (.iload_n 2, 1) := by decide +kernel
theorem dX12_thought_27 : decode cX12_thought 27 = .ok (.ifCond .ne 12, 3) := by decide +kernel
theorem dX12_thought_30 : decode cX12_thought 30 = .ok (.aload_n 0, 1) := by decide +kernel
theorem dX12_thought_31 : decode cX12_thought 31 = .ok (.getfield 116, 3) := by decide +kernel
theorem dX12_thought_34 : decode cX12_thought 34 = .ok (.iload_n 1, 1) := by decide +kernel
theorem dX12_thought_35 : decode cX12_thought 35 = .ok (.laload, 1) := by decide +kernel
theorem dX12_thought_36 : decode cX12_thought 36 = .ok (.goto 7, 3) := by decide +kernel
theorem dX12_thought_39 : decode cX12_thought 39 = .ok (.aload_n 0, 1) := by decide +kernel
theorem dX12_thought_40 : decode cX12_thought 40 = .ok (.getfield 449, 3) := by decide +kernel
theorem dX12_thought_43 : decode cX12_thought 43 = .ok (.lreturn, 1) := by decide +kernel
abbrev o_X12_thought : Type := Int64 × Int32 × Int32 × Int64 × (Nat → Int32) × (Nat → Int32) × (Nat → Int64) × (Nat → Int64)
def f_X12_thought (S : wd_W) (p1 : Int32) (p2 : Int32) : Option o_X12_thought :=
bd (f_X12_isThing (wd_o S [(38, (S.1 38)), (39, (S.1 39))] [(64, (S.2.1 64))] [(22, (S.2.2.1 22)), (23, (S.2.2.1 23))] [(21, (S.2.2.2.1 21)), (35, (S.2.2.2.1 35))] []) p1) fun o1 =>
if o1 = 0 then (
some ((-1 : Int64), (S.1 38), (S.1 39), (S.2.1 64), (S.2.2.1 22), (S.2.2.1 23), (S.2.2.2.1 21), (S.2.2.2.1 35))) else (
bd (f_X12_in p2.toInt64 (0 : Int64) (1 : Int64)) fun o2 =>
if o2 = 0 then (
some ((-1 : Int64), (S.1 38), (S.1 39), (S.2.1 64), (S.2.2.1 22), (S.2.2.1 23), (S.2.2.2.1 21), (S.2.2.2.1 35))) else (
bd (f_X12_asks (wd_o S [(38, (S.1 38)), (39, (S.1 39))] [(64, (S.2.1 64))] [(22, (S.2.2.1 22)), (23, (S.2.2.1 23))] [(21, (S.2.2.2.1 21)), (35, (S.2.2.2.1 35))] [])) fun o3 =>
if p2 = 0 then (
gd (okx p1 15) <|
some (o3.2.2.2.2.2.2 p1.toNatClampNeg, o3.1, o3.2.1, o3.2.2.1, o3.2.2.2.1, o3.2.2.2.2.1, o3.2.2.2.2.2.1, o3.2.2.2.2.2.2)) else (
some (o3.2.2.1, o3.1, o3.2.1, o3.2.2.1, o3.2.2.2.1, o3.2.2.2.2.1, o3.2.2.2.2.2.1, o3.2.2.2.2.2.2))))
set_option maxRecDepth 100000 in
set_option maxHeartbeats 4000000 in
theorem c_X12_thought (l : Launch) (D : va_G) (q g : Nat → Nat) (cy : Nat → ClassId) (z : (Nat → Nat) × (Nat → Nat) × Nat) (S : wd_W) (p1 : Int32) (p2 : Int32) (o : o_X12_thought) (hf : f_X12_thought S p1 p2 = some o) : MX layM l yX12_thought cX12_thought 3 (some .long) ({ frames := 5, cells := 0, slots := 0, locals := 111 } : Room) D q g cy z [.ref (q 0), .int p1, .int p2] S false (some (.long o.1)) (wd_o S [(38, o.2.1), (39, o.2.2.1)] [(64, o.2.2.2.1)] [(22, o.2.2.2.2.1), (23, o.2.2.2.2.2.1)] [(21, o.2.2.2.2.2.2.1), (35, o.2.2.2.2.2.2.2)] []) 0 0 := by
  refine mx_of (own := RX12) (lc := [(0, .ref (q 0)), (1, .int p1), (2, .int p2)]) (by decide +kernel) rfl layM_ok (Nat.le_of_ble_eq_true rfl) rfl ?_
  intro X hXl hXq hXz hC hQ
  subst hXl; subst hXq; subst hXz
  unfold f_X12_thought at hf
  refine go_keys (L1 := [(38, (S.1 38)), (39, (S.1 39))]) (L2 := [(64, (S.2.1 64))]) (L3 := [(22, (S.2.2.1 22)), (23, (S.2.2.1 23))]) (L4 := [(21, (S.2.2.2.1 21)), (35, (S.2.2.2.1 35))]) (L5 := []) [38, 39] [64] [22, 23] [21, 35] [] rfl rfl rfl rfl rfl ?_
  refine go_aload_n (pc' := 1) hC dX12_thought_0 rfl rfl ?_
  refine go_iload_n (pc' := 2) hC dX12_thought_1 rfl rfl ?_
  obtain ⟨o1, ho1, hf⟩ := bd_e hf
  refine go_callV0 (pc' := 5) (As := [.int p1]) (st := []) (st' := [.int o1])    (b := 0) hC dX12_thought_2 ⟨mw_956, mw_959, mw_5, yd_yX12_isThing, yp_yX12_isThing, Nat.le_of_ble_eq_true rfl, Nat.le_of_ble_eq_true rfl, (Nat.le_of_ble_eq_true rfl), (Nat.le_of_ble_eq_true rfl)⟩ mw_957 mw_958 layM_0 rfl rfl rfl (Nat.le_of_ble_eq_true rfl) (c_X12_isThing (x_l X) (x_D X) (x_q X) g (x_cy X) (x_z X) _ p1 o1 ho1) rfl rfl ?_
  refine go_if_eq (tgt := 18) (pc' := 8) hC dX12_thought_5 (by decide) rfl (fun h7 => ?_) (fun h7 => ?_)
  · have hf := ite_t h7 hf
    refine go_ldc2 (pc' := 21) hC dX12_thought_18 mw_922 rfl ?_
    obtain rfl := Option.some.inj hf
    exact go_lret hC hQ dX12_thought_21 rfl rfl rfl (fun _ => rfl) rfl rfl
  · have hf := ite_f h7 hf
    refine go_iload_n (pc' := 9) hC dX12_thought_8 rfl rfl ?_
    refine go_i2l (pc' := 10) hC dX12_thought_9 rfl ?_
    refine go_lconst (pc' := 11) hC dX12_thought_10 kl_0 rfl ?_
    refine go_lconst (pc' := 12) hC dX12_thought_11 kl_1 rfl ?_
    obtain ⟨o2, ho2, hf⟩ := bd_e hf
    refine go_callS0 (pc' := 15) (As := [.long p2.toInt64, .long (0 : Int64), .long (1 : Int64)]) (st := []) (st' := [.int o2])    hC dX12_thought_12 ⟨mw_525, mw_527, mw_5, yd_yX12_in, yp_yX12_in, Nat.le_of_ble_eq_true rfl, Nat.le_of_ble_eq_true rfl, (Nat.le_of_ble_eq_true rfl), (Nat.le_of_ble_eq_true rfl)⟩ mw_526 rfl rfl (Nat.le_of_ble_eq_true rfl) (c_X12_in (x_l X) (x_D X) (x_q X) g (x_cy X) (x_z X) _ p2.toInt64 (0 : Int64) (1 : Int64) o2 ho2) rfl rfl ?_
    refine go_if_ne (tgt := 22) (pc' := 18) hC dX12_thought_15 (by decide) rfl (fun h6 => ?_) (fun h6 => ?_)
    · have hf := ite_f h6 hf
      refine go_aload_n (pc' := 23) hC dX12_thought_22 rfl rfl ?_
      obtain ⟨o3, ho3, hf⟩ := bd_e hf
      refine go_callV1 (pc' := 26) (As := []) (st := []) (st' := []) (L1' := [(38, o3.1), (39, o3.2.1)]) (L2' := [(64, o3.2.2.1)]) (L3' := [(22, o3.2.2.2.1), (23, o3.2.2.2.2.1)]) (L4' := [(21, o3.2.2.2.2.2.1), (35, o3.2.2.2.2.2.2)]) (L5' := []) (cells' := 0) (slots' := 0)  (b := 0) hC dX12_thought_23 ⟨mw_1273, mw_1276, mw_5, yd_yX12_asks, yp_yX12_asks, Nat.le_of_ble_eq_true rfl, Nat.le_of_ble_eq_true rfl, (Nat.le_of_ble_eq_true rfl), (Nat.le_of_ble_eq_true rfl)⟩ mw_1274 mw_1275 layM_0 rfl rfl rfl (Nat.le_of_ble_eq_true rfl) (c_X12_asks (x_l X) (x_D X) (x_q X) g (x_cy X) (x_z X) _  o3 ho3) rfl rfl rfl rfl rfl rfl rfl rfl rfl rfl rfl rfl rfl rfl ?_
      refine go_iload_n (pc' := 27) hC dX12_thought_26 rfl rfl ?_
      refine go_if_ne (tgt := 39) (pc' := 30) hC dX12_thought_27 (by decide) rfl (fun h5 => ?_) (fun h5 => ?_)
      · have hf := ite_f h5 hf
        refine go_aload_n (pc' := 40) hC dX12_thought_39 rfl rfl ?_
        refine go_getl (v := o3.2.2.1) (pc' := 43) hC 0 64 layM_0 rfl rfl inlX12 (Nat.le_of_ble_eq_true rfl) mw_1272 rfl dX12_thought_40 rfl rfl ?_
        obtain rfl := Option.some.inj hf
        exact go_lret hC hQ dX12_thought_43 rfl rfl rfl (fun _ => rfl) rfl rfl
      · have hf := ite_t h5 hf
        refine go_aload_n (pc' := 31) hC dX12_thought_30 rfl rfl ?_
        refine go_getq (pc' := 34) hC 0 65 layM_0 rfl rfl inlX12 (Nat.le_of_ble_eq_true rfl) mw_216 rfl dX12_thought_31 rfl ?_
        refine go_iload_n (pc' := 35) hC dX12_thought_34 rfl rfl ?_
        obtain ⟨h4, hf⟩ := gd_e hf
        refine go_lald (f := o3.2.2.2.2.2.2) (pc' := 36) hC 35 layM_35 rfl rfl dX12_thought_35 (okx_in h4) rfl ?_
        refine go_goto (tgt := 43) hC dX12_thought_36 (by decide) ?_
        obtain rfl := Option.some.inj hf
        exact go_lret hC hQ dX12_thought_43 rfl rfl rfl (fun _ => rfl) rfl rfl
    · have hf := ite_t h6 hf
      refine go_ldc2 (pc' := 21) hC dX12_thought_18 mw_922 rfl ?_
      obtain rfl := Option.some.inj hf
      exact go_lret hC hQ dX12_thought_21 rfl rfl rfl (fun _ => rfl) rfl rfl
theorem dX12_look_0 : decode cX12_look 0 = .ok (.aload_n 0, 1) := by decide +kernel
theorem dX12_look_1 : decode cX12_look 1 = .ok (.invokevirtual 456, 3) := by decide +kernel
theorem dX12_look_4 : decode cX12_look 4 = .ok (.aload_n 0, 1) := by decide +kernel
theorem dX12_look_5 : decode cX12_look 5 = .ok (.getfield 449, 3) := by decide +kernel
theorem dX12_look_8 : decode cX12_look 8 = .ok (.lconst 0, 1) := by decide +kernel
theorem dX12_look_9 : decode cX12_look 9 = .ok (.lcmp, 1) := by decide +kernel
theorem dX12_look_10 : decode cX12_look 10 = .ok (.ifCond .ne 5, 3) := by decide +kernel
theorem dX12_look_13 : decode cX12_look 13 = .ok (.iconst (-1), 1) := by decide +kernel
theorem dX12_look_14 : decode cX12_look 14 = .ok (.ireturn, 1) := by decide +kernel
theorem dX12_look_15 : decode cX12_look 15 = .ok (.iconst (-1), 1) := by decide +kernel
theorem dX12_look_16 : decode cX12_look 16 = .ok (.istore_n 1, 1) := by decide +kernel
theorem dX12_look_17 : decode cX12_look 17 = .ok (.lconst 0, 1) := by decide +kernel
theorem dX12_look_18 : decode cX12_look 18 = .ok (.lstore_n 2, 1) := by decide +kernel
theorem dX12_look_19 : decode cX12_look 19 = .ok (.iconst 0, 1) := by decide +kernel
theorem dX12_look_20 : decode cX12_look 20 = .ok (.istore 4, 2) := by decide +kernel
theorem dX12_look_22 : decode cX12_look 22 = .ok (.iload 4, 2) := by decide +kernel
theorem dX12_look_24 : decode cX12_look 24 = .ok (.aload_n 0, 1) := by decide +kernel
theorem dX12_look_25 : decode cX12_look 25 = .ok (.getfield 288, 3) := by decide +kernel
theorem dX12_look_28 : decode cX12_look 28 = .ok (.if_icmp .ge 64, 3) := by decide +kernel
theorem dX12_look_31 : decode cX12_look 31 = .ok (.ldc2_w 430, 3) := by decide +kernel
theorem dX12_look_34 : decode cX12_look 34 = .ok (.aload_n 0, 1) := by decide +kernel
theorem dX12_look_35 : decode cX12_look 35 = .ok (.getfield 116, 3) := by decide +kernel
theorem dX12_look_38 : decode cX12_look 38 = .ok (.iload 4, 2) := by decide +kernel
theorem dX12_look_40 : decode cX12_look 40 = .ok (.laload, 1) := by decide +kernel
theorem dX12_look_41 : decode cX12_look 41 = .ok (.lmul, 1) := by decide +kernel
theorem dX12_look_42 : decode cX12_look 42 = .ok (.aload_n 0, 1) := by decide +kernel
theorem dX12_look_43 : decode cX12_look 43 = .ok (.getfield 449, 3) := by decide +kernel
theorem dX12_look_46 : decode cX12_look 46 = .ok (.lsub, 1) := by decide +kernel
theorem dX12_look_47 : decode cX12_look 47 = .ok (.lstore 5, 2) := by decide +kernel
theorem dX12_look_49 : decode cX12_look 49 = .ok (.lload 5, 2) := by decide +kernel
theorem dX12_look_51 : decode cX12_look 51 = .ok (.lconst 0, 1) := by decide +kernel
theorem dX12_look_52 : decode cX12_look 52 = .ok (.lcmp, 1) := by decide +kernel
theorem dX12_look_53 : decode cX12_look 53 = .ok (.ifCond .ge 9, 3) := by decide +kernel
theorem dX12_look_56 : decode cX12_look 56 = .ok (.lload 5, 2) := by decide +kernel
theorem dX12_look_58 : decode cX12_look 58 = .ok (.lneg, 1) := by decide +kernel
theorem dX12_look_59 : decode cX12_look 59 = .ok (.goto 5, 3) := by decide +kernel
theorem dX12_look_62 : decode cX12_look 62 = .ok (.lload 5, 2) := by decide +kernel
theorem dX12_look_64 : decode cX12_look 64 = .ok (.lstore 5, 2) := by decide +kernel
theorem dX12_look_66 : decode cX12_look 66 = .ok (.iload_n 1, 1) := by decide +kernel
theorem dX12_look_67 : decode cX12_look 67 = .ok (.ifCond .lt 13, 3) := by decide +kernel
theorem dX12_look_70 : decode cX12_look 70 = .ok (.lload 5, 2) := by decide +kernel
theorem dX12_look_72 : decode cX12_look 72 = .ok (.lload_n 2, 1) := by decide +kernel
theorem dX12_look_73 : decode cX12_look 73 = .ok (.lcmp, 1) := by decide +kernel
theorem dX12_look_74 : decode cX12_look 74 = .ok (.ifCond .lt 6, 3) := by decide +kernel
theorem dX12_look_77 : decode cX12_look 77 = .ok (.goto 9, 3) := by decide +kernel
theorem dX12_look_80 : decode cX12_look 80 = .ok (.iload 4, 2) := by decide +kernel
theorem dX12_look_82 : decode cX12_look 82 = .ok (.istore_n 1, 1) := by decide +kernel
theorem dX12_look_83 : decode cX12_look 83 = .ok (.lload 5, 2) := by decide +kernel
theorem dX12_look_85 : decode cX12_look 85 = .ok (.lstore_n 2, 1) := by decide +kernel
theorem dX12_look_86 : decode cX12_look 86 = .ok (.iinc 4 1, 3) := by decide +kernel
theorem dX12_look_89 : decode cX12_look 89 = .ok (.goto (-67), 3) := by decide +kernel
theorem dX12_look_92 : decode cX12_look 92 = .ok (.iload_n 1, 1) := by decide +kernel
theorem dX12_look_93 : decode cX12_look 93 = .ok (.ireturn, 1) := by decide +kernel
abbrev o_X12_look : Type := Int32 × Int32 × Int32 × Int64 × (Nat → Int32) × (Nat → Int32) × (Nat → Int64) × (Nat → Int64)
def f_X12_look_L22 (S : wd_W) (o1 : o_X12_asks) (r5 : (Int32) → (Int64) → (Int32) → (Option o_X12_look)) (x2 : Int32) (x3 : Int64) (x4 : Int32) : Option o_X12_look :=
if (S.1 32) ≤ x4 then (
some (x2, o1.1, o1.2.1, o1.2.2.1, o1.2.2.2.1, o1.2.2.2.2.1, o1.2.2.2.2.2.1, o1.2.2.2.2.2.2)) else (
gd (okx x4 15) <|
lz (((2 : Int64) * (o1.2.2.2.2.2.2 x4.toNatClampNeg)) - o1.2.2.1) fun x7 =>
lk (fun x8 =>
lk (fun x10 x11 =>
r5 x10 x11 (x4 + (1 : Int32))) fun k86_12 =>
lk (k86_12 x4 x8) fun k80_13 =>
if x2 < 0 then (
k80_13) else (
if x8 < x3 then (
k80_13) else (
k86_12 x2 x3))) fun k64_9 =>
if (0 : Int64) ≤ x7 then (
k64_9 x7) else (
k64_9 (-x7)))
def f_X12_look (S : wd_W) : Option o_X12_look :=
bd (f_X12_asks (wd_o S [(38, (S.1 38)), (39, (S.1 39))] [(64, (S.2.1 64))] [(22, (S.2.2.1 22)), (23, (S.2.2.1 23))] [(21, (S.2.2.2.1 21)), (35, (S.2.2.2.1 35))] [])) fun o1 =>
if o1.2.2.1 = (0 : Int64) then (
some ((-1 : Int32), o1.1, o1.2.1, o1.2.2.1, o1.2.2.2.1, o1.2.2.2.2.1, o1.2.2.2.2.2.1, o1.2.2.2.2.2.2)) else (
it3 (f_X12_look_L22 S o1) fuel (-1 : Int32) (0 : Int64) (0 : Int32))
set_option maxRecDepth 100000 in
set_option maxHeartbeats 4000000 in
theorem c_X12_look (l : Launch) (D : va_G) (q g : Nat → Nat) (cy : Nat → ClassId) (z : (Nat → Nat) × (Nat → Nat) × Nat) (S : wd_W) (o : o_X12_look) (hf : f_X12_look S = some o) : MX layM l yX12_look cX12_look 7 (some .int) ({ frames := 5, cells := 0, slots := 0, locals := 111 } : Room) D q g cy z [.ref (q 0)] S false (some (.int o.1)) (wd_o S [(38, o.2.1), (39, o.2.2.1)] [(64, o.2.2.2.1)] [(22, o.2.2.2.2.1), (23, o.2.2.2.2.2.1)] [(21, o.2.2.2.2.2.2.1), (35, o.2.2.2.2.2.2.2)] []) 0 0 := by
  refine mx_of (own := RX12) (lc := [(0, .ref (q 0))]) (by decide +kernel) rfl layM_ok (Nat.le_of_ble_eq_true rfl) rfl ?_
  intro X hXl hXq hXz hC hQ
  subst hXl; subst hXq; subst hXz
  unfold f_X12_look at hf
  refine go_keys (L1 := [(38, (S.1 38)), (39, (S.1 39))]) (L2 := [(64, (S.2.1 64))]) (L3 := [(22, (S.2.2.1 22)), (23, (S.2.2.1 23))]) (L4 := [(21, (S.2.2.2.1 21)), (35, (S.2.2.2.1 35))]) (L5 := []) [38, 39] [64] [22, 23] [21, 35] [] rfl rfl rfl rfl rfl ?_
  refine go_aload_n (pc' := 1) hC dX12_look_0 rfl rfl ?_
  obtain ⟨o1, ho1, hf⟩ := bd_e hf
  refine go_callV1 (pc' := 4) (As := []) (st := []) (st' := []) (L1' := [(38, o1.1), (39, o1.2.1)]) (L2' := [(64, o1.2.2.1)]) (L3' := [(22, o1.2.2.2.1), (23, o1.2.2.2.2.1)]) (L4' := [(21, o1.2.2.2.2.2.1), (35, o1.2.2.2.2.2.2)]) (L5' := []) (cells' := 0) (slots' := 0)  (b := 0) hC dX12_look_1 ⟨mw_1273, mw_1276, mw_5, yd_yX12_asks, yp_yX12_asks, Nat.le_of_ble_eq_true rfl, Nat.le_of_ble_eq_true rfl, (Nat.le_of_ble_eq_true rfl), (Nat.le_of_ble_eq_true rfl)⟩ mw_1274 mw_1275 layM_0 rfl rfl rfl (Nat.le_of_ble_eq_true rfl) (c_X12_asks (x_l X) (x_D X) (x_q X) g (x_cy X) (x_z X) _  o1 ho1) rfl rfl rfl rfl rfl rfl rfl rfl rfl rfl rfl rfl rfl rfl ?_
  refine go_aload_n (pc' := 5) hC dX12_look_4 rfl rfl ?_
  refine go_getl (v := o1.2.2.1) (pc' := 8) hC 0 64 layM_0 rfl rfl inlX12 (Nat.le_of_ble_eq_true rfl) mw_1272 rfl dX12_look_5 rfl rfl ?_
  refine go_lconst (pc' := 9) hC dX12_look_8 kl_0 rfl ?_
  refine go_lcmp (pc' := 10) hC dX12_look_9 rfl ?_
  refine go_if_ne (tgt := 15) (pc' := 13) hC dX12_look_10 (by decide) rfl (fun h19 => ?_) (fun h19 => ?_)
  · have hf := ite_f (mt lg_eq.mpr h19) hf
    refine go_iconst (pc' := 16) hC dX12_look_15 ki_m1 rfl ?_
    refine go_istore_n (lc' := [(0, .ref (x_q X 0)), (1, .int (-1 : Int32))]) (pc' := 17) hC dX12_look_16 (Nat.le_of_ble_eq_true rfl) rfl rfl ?_
    refine go_lconst (pc' := 18) hC dX12_look_17 kl_0 rfl ?_
    refine go_lstore_n (lc' := [(0, .ref (x_q X 0)), (1, .int (-1 : Int32)), (2, .long (0 : Int64))]) (pc' := 19) hC dX12_look_18 (Nat.le_of_ble_eq_true rfl) rfl rfl ?_
    refine go_iconst (pc' := 20) hC dX12_look_19 ki_0 rfl ?_
    refine go_istore (lc' := [(0, .ref (x_q X 0)), (1, .int (-1 : Int32)), (2, .long (0 : Int64)), (4, .int (0 : Int32))]) (pc' := 22) hC dX12_look_20 (Nat.le_of_ble_eq_true rfl) rfl rfl ?_
    have l22_18 : ∀ (nn : Nat) (x2 : Int32) (x3 : Int64) (x4 : Int32), it3 (f_X12_look_L22 S o1) nn x2 x3 x4 = some o → Go X layM S 22 [(0, .ref (x_q X 0)), (1, .int x2), (2, .long x3), (4, .int x4)] [] g [(38, o1.1), (39, o1.2.1)] [(64, o1.2.2.1)] [(22, o1.2.2.2.1), (23, o1.2.2.2.2.1)] [(21, o1.2.2.2.2.2.1), (35, o1.2.2.2.2.2.2)] [] 0 0 := by
      intro nn
      induction nn with
      | zero =>
        intro x2 x3 x4 hf
        exact none_no hf
      | succ nn ih =>
        intro x2 x3 x4 hf
        have hf : f_X12_look_L22 S o1 (it3 (f_X12_look_L22 S o1) nn) x2 x3 x4 = some o := hf
        generalize it3 (f_X12_look_L22 S o1) nn = r5 at ih hf
        unfold f_X12_look_L22 at hf
        refine go_iload (pc' := 24) hC dX12_look_22 rfl rfl ?_
        refine go_aload_n (pc' := 25) hC dX12_look_24 rfl rfl ?_
        refine go_geti (v := (S.1 32)) (pc' := 28) hC 0 32 layM_0 rfl rfl inlX12 (Nat.le_of_ble_eq_true rfl) mw_250 rfl dX12_look_25 rfl rfl ?_
        refine go_icmp_ge (tgt := 92) (pc' := 31) hC dX12_look_28 (by decide) rfl (fun h17 => ?_) (fun h17 => ?_)
        · have hf := ite_t h17 hf
          refine go_iload_n (pc' := 93) hC dX12_look_92 rfl rfl ?_
          obtain rfl := Option.some.inj hf
          exact go_iret hC hQ dX12_look_93 rfl rfl rfl rfl (fun _ => rfl) rfl rfl
        · have hf := ite_f h17 hf
          refine go_ldc2 (pc' := 34) hC dX12_look_31 mw_1174 rfl ?_
          refine go_aload_n (pc' := 35) hC dX12_look_34 rfl rfl ?_
          refine go_getq (pc' := 38) hC 0 65 layM_0 rfl rfl inlX12 (Nat.le_of_ble_eq_true rfl) mw_216 rfl dX12_look_35 rfl ?_
          refine go_iload (pc' := 40) hC dX12_look_38 rfl rfl ?_
          obtain ⟨h6, hf⟩ := gd_e hf
          refine go_lald (f := o1.2.2.2.2.2.2) (pc' := 41) hC 35 layM_35 rfl rfl dX12_look_40 (okx_in h6) rfl ?_
          refine go_lmul (pc' := 42) hC dX12_look_41 rfl ?_
          refine go_aload_n (pc' := 43) hC dX12_look_42 rfl rfl ?_
          refine go_getl (v := o1.2.2.1) (pc' := 46) hC 0 64 layM_0 rfl rfl inlX12 (Nat.le_of_ble_eq_true rfl) mw_1272 rfl dX12_look_43 rfl rfl ?_
          refine go_lsub (pc' := 47) hC dX12_look_46 rfl ?_
          refine go_namel (fun x7 hx => ?_)
          have hf := lz_r hx hf
          clear hx
          refine go_lstore (lc' := [(0, .ref (x_q X 0)), (1, .int x2), (2, .long x3), (4, .int x4), (5, .long x7)]) (pc' := 49) hC dX12_look_47 (Nat.le_of_ble_eq_true rfl) rfl rfl ?_
          refine go_lload (pc' := 51) hC dX12_look_49 rfl rfl ?_
          refine go_lconst (pc' := 52) hC dX12_look_51 kl_0 rfl ?_
          refine go_lcmp (pc' := 53) hC dX12_look_52 rfl ?_
          obtain ⟨k64_9, hk64_9, hf⟩ := lk_e1 hf
          have jk64_9 : ∀ (x8 : Int64), k64_9 x8 = some o → Go X layM S 64 [(0, .ref (x_q X 0)), (1, .int x2), (2, .long x3), (4, .int x4)] [.long x8] g [(38, o1.1), (39, o1.2.1)] [(64, o1.2.2.1)] [(22, o1.2.2.2.1), (23, o1.2.2.2.2.1)] [(21, o1.2.2.2.2.2.1), (35, o1.2.2.2.2.2.2)] [] 0 0 := by
            intro x8 hf
            have hf := hk64_9 x8 hf
            clear hk64_9
            refine go_lstore (lc' := [(0, .ref (x_q X 0)), (1, .int x2), (2, .long x3), (4, .int x4), (5, .long x8)]) (pc' := 66) hC dX12_look_64 (Nat.le_of_ble_eq_true rfl) rfl rfl ?_
            refine go_iload_n (pc' := 67) hC dX12_look_66 rfl rfl ?_
            obtain ⟨k86_12, hk86_12, hf⟩ := lk_e2 hf
            have jk86_12 : ∀ (x10 : Int32) (x11 : Int64), k86_12 x10 x11 = some o → Go X layM S 86 [(0, .ref (x_q X 0)), (1, .int x10), (2, .long x11), (4, .int x4)] [] g [(38, o1.1), (39, o1.2.1)] [(64, o1.2.2.1)] [(22, o1.2.2.2.1), (23, o1.2.2.2.2.1)] [(21, o1.2.2.2.2.2.1), (35, o1.2.2.2.2.2.2)] [] 0 0 := by
              intro x10 x11 hf
              have hf := hk86_12 x10 x11 hf
              clear hk86_12
              refine go_iinc (lc' := [(0, .ref (x_q X 0)), (1, .int x10), (2, .long x11), (4, .int (x4 + (1 : Int32)))]) (pc' := 89) hC dX12_look_86 rfl ki_1 (Nat.le_of_ble_eq_true rfl) rfl rfl ?_
              refine go_goto (tgt := 22) hC dX12_look_89 (by decide) ?_
              exact ih x10 x11 (x4 + (1 : Int32)) hf
            clear hk86_12
            obtain ⟨k80_13, hk80_13, hf⟩ := lk_e0 hf
            have jk80_13 : ∀ (_ : Unit), k80_13 = some o → Go X layM S 80 [(0, .ref (x_q X 0)), (4, .int x4), (5, .long x8)] [] g [(38, o1.1), (39, o1.2.1)] [(64, o1.2.2.1)] [(22, o1.2.2.2.1), (23, o1.2.2.2.2.1)] [(21, o1.2.2.2.2.2.1), (35, o1.2.2.2.2.2.2)] [] 0 0 := by
              intro _ hf
              have hf := hk80_13 hf
              clear hk80_13
              refine go_iload (pc' := 82) hC dX12_look_80 rfl rfl ?_
              refine go_istore_n (lc' := [(0, .ref (x_q X 0)), (1, .int x4), (4, .int x4), (5, .long x8)]) (pc' := 83) hC dX12_look_82 (Nat.le_of_ble_eq_true rfl) rfl rfl ?_
              refine go_lload (pc' := 85) hC dX12_look_83 rfl rfl ?_
              refine go_lstore_n (lc' := [(0, .ref (x_q X 0)), (1, .int x4), (2, .long x8), (4, .int x4), (5, .long x8)]) (pc' := 86) hC dX12_look_85 (Nat.le_of_ble_eq_true rfl) rfl rfl ?_
              refine go_sub [0, 1, 2, 4] rfl ?_
              exact jk86_12 x4 x8 hf
            clear hk80_13
            refine go_if_lt (tgt := 80) (pc' := 70) hC dX12_look_67 (by decide) rfl (fun h15 => ?_) (fun h15 => ?_)
            · have hf := ite_t h15 hf
              refine go_sub [0, 4, 5] rfl ?_
              exact jk80_13 () hf
            · have hf := ite_f h15 hf
              refine go_lload (pc' := 72) hC dX12_look_70 rfl rfl ?_
              refine go_lload_n (pc' := 73) hC dX12_look_72 rfl rfl ?_
              refine go_lcmp (pc' := 74) hC dX12_look_73 rfl ?_
              refine go_if_lt (tgt := 80) (pc' := 77) hC dX12_look_74 (by decide) rfl (fun h14 => ?_) (fun h14 => ?_)
              · have hf := ite_t (lg_lt.mp h14) hf
                refine go_sub [0, 4, 5] rfl ?_
                exact jk80_13 () hf
              · have hf := ite_f (mt lg_lt.mpr h14) hf
                refine go_goto (tgt := 86) hC dX12_look_77 (by decide) ?_
                refine go_sub [0, 1, 2, 4] rfl ?_
                exact jk86_12 x2 x3 hf
          clear hk64_9
          refine go_if_ge (tgt := 62) (pc' := 56) hC dX12_look_53 (by decide) rfl (fun h16 => ?_) (fun h16 => ?_)
          · have hf := ite_t (lg_ge.mp h16) hf
            refine go_lload (pc' := 64) hC dX12_look_62 rfl rfl ?_
            refine go_sub [0, 1, 2, 4] rfl ?_
            exact jk64_9 x7 hf
          · have hf := ite_f (mt lg_ge.mpr h16) hf
            refine go_lload (pc' := 58) hC dX12_look_56 rfl rfl ?_
            refine go_lneg (pc' := 59) hC dX12_look_58 rfl ?_
            refine go_goto (tgt := 64) hC dX12_look_59 (by decide) ?_
            refine go_sub [0, 1, 2, 4] rfl ?_
            exact jk64_9 (-x7) hf
    exact l22_18 fuel (-1 : Int32) (0 : Int64) (0 : Int32) hf
  · have hf := ite_t (lg_eq.mp h19) hf
    refine go_iconst (pc' := 14) hC dX12_look_13 ki_m1 rfl ?_
    obtain rfl := Option.some.inj hf
    exact go_iret hC hQ dX12_look_14 rfl rfl rfl rfl (fun _ => rfl) rfl rfl
theorem dX12_daysOf_0 : decode cX12_daysOf 0 = .ok (.aload_n 0, 1) := by decide +kernel
theorem dX12_daysOf_1 : decode cX12_daysOf 1 = .ok (.invokevirtual 375, 3) := by decide +kernel
theorem dX12_daysOf_4 : decode cX12_daysOf 4 = .ok (.aload_n 0, 1) := by decide +kernel
theorem dX12_daysOf_5 : decode cX12_daysOf 5 = .ok (.invokevirtual 364, 3) := by decide +kernel
theorem dX12_daysOf_8 : decode cX12_daysOf 8 = .ok (.iconst 0, 1) := by decide +kernel
theorem dX12_daysOf_9 : decode cX12_daysOf 9 = .ok (.istore_n 3, 1) := by decide +kernel
theorem dX12_daysOf_10 : decode cX12_daysOf 10 = .ok (.iload_n 3, 1) := by decide +kernel
theorem dX12_daysOf_11 : decode cX12_daysOf 11 = .ok (.bipush 99, 2) := by decide +kernel
theorem dX12_daysOf_13 : decode cX12_daysOf 13 = .ok (.if_icmp .gt 16, 3) := by decide +kernel
theorem dX12_daysOf_16 : decode cX12_daysOf 16 = .ok (.aload_n 0, 1) := by decide +kernel
theorem dX12_daysOf_17 : decode cX12_daysOf 17 = .ok (.getfield 119, 3) := by decide +kernel
theorem dX12_daysOf_20 : decode cX12_daysOf 20 = .ok (.iload_n 3, 1) := by decide +kernel
theorem dX12_daysOf_21 : decode cX12_daysOf 21 = .ok (.lconst 0, 1) := by decide +kernel
theorem dX12_daysOf_22 : decode cX12_daysOf 22 = .ok (.lastore, 1) := by decide +kernel
theorem dX12_daysOf_23 : decode cX12_daysOf 23 = .ok (.iinc 3 1, 3) := by decide +kernel
theorem dX12_daysOf_26 : decode cX12_daysOf 26 = .ok (.goto (-16), 3) := by decide +kernel
theorem dX12_daysOf_29 : decode cX12_daysOf 29 = .ok (.iconst 0, 1) := by decide +kernel
theorem dX12_daysOf_30 : decode cX12_daysOf 30 = .ok (.istore_n 3, 1) := by decide +kernel
theorem dX12_daysOf_31 : decode cX12_daysOf 31 = .ok (.iload_n 3, 1) := by decide +kernel
theorem dX12_daysOf_32 : decode cX12_daysOf 32 = .ok (.aload_n 0, 1) := by decide +kernel
theorem dX12_daysOf_33 : decode cX12_daysOf 33 = .ok (.invokevirtual 354, 3) := by decide +kernel
theorem dX12_daysOf_36 : decode cX12_daysOf 36 = .ok (.if_icmp .ge 78, 3) := by decide +kernel
theorem dX12_daysOf_39 : decode cX12_daysOf 39 = .ok (.aload_n 0, 1) := by decide +kernel
theorem dX12_daysOf_40 : decode cX12_daysOf 40 = .ok (.getfield 73, 3) := by decide +kernel
theorem dX12_daysOf_43 : decode cX12_daysOf 43 = .ok (.iload_n 3, 1) := by decide +kernel
theorem dX12_daysOf_44 : decode cX12_daysOf 44 = .ok (.laload, 1) := by decide +kernel
theorem dX12_daysOf_45 : decode cX12_daysOf 45 = .ok (.lconst 0, 1) := by decide +kernel
theorem dX12_daysOf_46 : decode cX12_daysOf 46 = .ok (.lcmp, 1) := by decide +kernel
theorem dX12_daysOf_47 : decode cX12_daysOf 47 = .ok (.ifCond .ne 6, 3) := by decide +kernel
theorem dX12_daysOf_50 : decode cX12_daysOf 50 = .ok (.goto 58, 3) := by decide +kernel
theorem dX12_daysOf_53 : decode cX12_daysOf 53 = .ok (.aload_n 0, 1) := by decide +kernel
theorem dX12_daysOf_54 : decode cX12_daysOf 54 = .ok (.iload_n 3, 1) := by decide +kernel
theorem dX12_daysOf_55 : decode cX12_daysOf 55 = .ok (.iconst 0, 1) := by decide +kernel
theorem dX12_daysOf_56 : decode cX12_daysOf 56 = .ok (.invokevirtual 337, 3) := by decide +kernel
theorem dX12_daysOf_59 : decode cX12_daysOf 59 = .ok (.aload_n 0, 1) := by decide +kernel
theorem dX12_daysOf_60 : decode cX12_daysOf 60 = .ok (.getfield 318, 3) := by decide +kernel
theorem dX12_daysOf_63 : decode cX12_daysOf 63 = .ok (.iload_n 2, 1) := by decide +kernel
theorem dX12_daysOf_64 : decode cX12_daysOf 64 = .ok (.ishr, 1) := by decide +kernel
theorem dX12_daysOf_65 : decode cX12_daysOf 65 = .ok (.iconst 1, 1) := by decide +kernel
theorem dX12_daysOf_66 : decode cX12_daysOf 66 = .ok (.iand, 1) := by decide +kernel
theorem dX12_daysOf_67 : decode cX12_daysOf 67 = .ok (.iconst 1, 1) := by decide +kernel
theorem dX12_daysOf_68 : decode cX12_daysOf 68 = .ok (.if_icmp .ne 12, 3) := by decide +kernel
theorem dX12_daysOf_71 : decode cX12_daysOf 71 = .ok (.aload_n 0, 1) := by decide +kernel
theorem dX12_daysOf_72 : decode cX12_daysOf 72 = .ok (.iload_n 1, 1) := by decide +kernel
theorem dX12_daysOf_73 : decode cX12_daysOf 73 = .ok (.iload_n 2, 1) := by decide +kernel
theorem dX12_daysOf_74 : decode cX12_daysOf 74 = .ok (.invokevirtual 347, 3) := by decide +kernel
theorem dX12_daysOf_77 : decode cX12_daysOf 77 = .ok (.goto 6, 3) := by decide +kernel
theorem dX12_daysOf_80 : decode cX12_daysOf 80 = .ok (.sipush 1000, 3) := by decide +kernel
theorem dX12_daysOf_83 : decode cX12_daysOf 83 = .ok (.istore 4, 2) := by decide +kernel
theorem dX12_daysOf_85 : decode cX12_daysOf 85 = .ok (.iload 4, 2) := by decide +kernel
theorem dX12_daysOf_87 : decode cX12_daysOf 87 = .ok (.bipush 99, 2) := by decide +kernel
theorem dX12_daysOf_89 : decode cX12_daysOf 89 = .ok (.if_icmp .gt 19, 3) := by decide +kernel
theorem dX12_daysOf_92 : decode cX12_daysOf 92 = .ok (.aload_n 0, 1) := by decide +kernel
theorem dX12_daysOf_93 : decode cX12_daysOf 93 = .ok (.getfield 119, 3) := by decide +kernel
theorem dX12_daysOf_96 : decode cX12_daysOf 96 = .ok (.iload 4, 2) := by decide +kernel
theorem dX12_daysOf_98 : decode cX12_daysOf 98 = .ok (.dup2, 1) := by decide +kernel
theorem dX12_daysOf_99 : decode cX12_daysOf 99 = .ok (.laload, 1) := by decide +kernel
theorem dX12_daysOf_100 : decode cX12_daysOf 100 = .ok (.aload_n 0, 1) := by decide +kernel
theorem dX12_daysOf_101 : decode cX12_daysOf 101 = .ok (.getfield 73, 3) := by decide +kernel
theorem dX12_daysOf_104 : decode cX12_daysOf 104 = .ok (.iload_n 3, 1) := by decide +kernel
theorem dX12_daysOf_105 : decode cX12_daysOf 105 = .ok (.laload, 1) := by decide +kernel
theorem dX12_daysOf_106 : decode cX12_daysOf 106 = .ok (.ladd, 1) := by decide +kernel
theorem dX12_daysOf_107 : decode cX12_daysOf 107 = .ok (.lastore, 1) := by decide +kernel
theorem dX12_daysOf_108 : decode cX12_daysOf 108 = .ok (.iinc 3 1, 3) := by decide +kernel
theorem dX12_daysOf_111 : decode cX12_daysOf 111 = .ok (.goto (-80), 3) := by decide +kernel
theorem dX12_daysOf_114 : decode cX12_daysOf 114 = .ok (.return_, 1) := by decide +kernel
abbrev o_X12_daysOf : Type := Int32 × Int32 × (Nat → Int32) × (Nat → Int32) × (Nat → Int32) × (Nat → Int64) × (Nat → Int64)
def f_X12_daysOf_L31 (S : wd_W) (p1 : Int32) (p2 : Int32) (o1 : o_X12_plain) (o2 : o_X12_weighs) (r10 : (Int32) → (Int32) → (Int32) → (Nat → Int32) → (Nat → Int64) → (Option o_X12_daysOf)) (x5 : Int32) (x6 : Int32) (x7 : Int32) (a8 : Nat → Int32) (a9 : Nat → Int64) : Option o_X12_daysOf :=
bd (f_X12_sets (wd_o S [(38, x6), (39, x7)] [] [(17, a8), (22, o1.1), (23, o1.2)] [(21, o2), (36, a9)] [])) fun o11 =>
if o11 ≤ x5 then (
some (x6, x7, a8, o1.1, o1.2, o2, a9)) else (
gd (okx x5 32768) <|
lk (fun x13 x14 a15 a16 =>
r10 (x5 + (1 : Int32)) x13 x14 a15 a16) fun k108_17 =>
if (o2 x5.toNatClampNeg) = (0 : Int64) then (
k108_17 x6 x7 a8 a9) else (
bd (f_X12_opens (wd_o S [(38, x6), (39, x7)] [] [(17, a8), (22, o1.1), (23, o1.2)] [(21, o2), (36, a9)] []) x5 (0 : Int32)) fun o18 =>
lk (fun x19 a20 =>
if (99 : Int32) < x19 then (
k108_17 o18.1 o18.2 a20 a9) else (
gd (okx x19 100) <|
gd (okx x5 32768) <|
lz ((a9 x19.toNatClampNeg) + (o2 x5.toNatClampNeg)) fun x24 =>
gd (okx x19 100) <|
lz (vp_updL a9 x19.toNatClampNeg x24) fun a26 =>
k108_17 o18.1 o18.2 a20 a26)) fun k83_21 =>
if ((o18.1 >>> (p2 &&& 31)) &&& (1 : Int32)) = (1 : Int32) then (
bd (f_X12_daysTo (wd_o S [(38, o18.1), (39, o18.2)] [] [(17, a8), (22, o1.1), (23, o1.2)] [(21, o2), (36, a9)] []) p1 p2) fun o28 =>
k83_21 o28.1 o28.2) else (
k83_21 (1000 : Int32) a8)))
def f_X12_daysOf_L10 (k29_4 : (Nat → Int64) → (Option o_X12_daysOf)) (r35 : (Int32) → (Nat → Int64) → (Option o_X12_daysOf)) (x33 : Int32) (a34 : Nat → Int64) : Option o_X12_daysOf :=
if (99 : Int32) < x33 then (
k29_4 a34) else (
gd (okx x33 100) <|
lz (vp_updL a34 x33.toNatClampNeg (0 : Int64)) fun a37 =>
r35 (x33 + (1 : Int32)) a37)
def f_X12_daysOf (S : wd_W) (p1 : Int32) (p2 : Int32) : Option o_X12_daysOf :=
bd (f_X12_plain (wd_o S [(38, (S.1 38)), (39, (S.1 39))] [] [(17, (S.2.2.1 17)), (22, (S.2.2.1 22)), (23, (S.2.2.1 23))] [(21, (S.2.2.2.1 21)), (36, (S.2.2.2.1 36))] [])) fun o1 =>
bd (f_X12_weighs (wd_o S [(38, (S.1 38)), (39, (S.1 39))] [] [(17, (S.2.2.1 17)), (22, o1.1), (23, o1.2)] [(21, (S.2.2.2.1 21)), (36, (S.2.2.2.1 36))] [])) fun o2 =>
lk (fun a3 =>
it5 (f_X12_daysOf_L31 S p1 p2 o1 o2) fuel (0 : Int32) (S.1 38) (S.1 39) (S.2.2.1 17) a3) fun k29_4 =>
it2 (f_X12_daysOf_L10 k29_4) fuel (0 : Int32) (S.2.2.2.1 36)
set_option maxRecDepth 100000 in
set_option maxHeartbeats 4000000 in
theorem c_X12_daysOf (l : Launch) (D : va_G) (q g : Nat → Nat) (cy : Nat → ClassId) (z : (Nat → Nat) × (Nat → Nat) × Nat) (S : wd_W) (p1 : Int32) (p2 : Int32) (o : o_X12_daysOf) (hf : f_X12_daysOf S p1 p2 = some o) : MX layM l yX12_daysOf cX12_daysOf 5 none ({ frames := 2, cells := 0, slots := 0, locals := 45 } : Room) D q g cy z [.ref (q 0), .int p1, .int p2] S false (none) (wd_o S [(38, o.1), (39, o.2.1)] [] [(17, o.2.2.1), (22, o.2.2.2.1), (23, o.2.2.2.2.1)] [(21, o.2.2.2.2.2.1), (36, o.2.2.2.2.2.2)] []) 0 0 := by
  refine mx_of (own := RX12) (lc := [(0, .ref (q 0)), (1, .int p1), (2, .int p2)]) (by decide +kernel) rfl layM_ok (Nat.le_of_ble_eq_true rfl) rfl ?_
  intro X hXl hXq hXz hC hQ
  subst hXl; subst hXq; subst hXz
  unfold f_X12_daysOf at hf
  refine go_keys (L1 := [(38, (S.1 38)), (39, (S.1 39))]) (L2 := []) (L3 := [(17, (S.2.2.1 17)), (22, (S.2.2.1 22)), (23, (S.2.2.1 23))]) (L4 := [(21, (S.2.2.2.1 21)), (36, (S.2.2.2.1 36))]) (L5 := []) [38, 39] [] [17, 22, 23] [21, 36] [] rfl rfl rfl rfl rfl ?_
  refine go_aload_n (pc' := 1) hC dX12_daysOf_0 rfl rfl ?_
  obtain ⟨o1, ho1, hf⟩ := bd_e hf
  refine go_callV1 (pc' := 4) (As := []) (st := []) (st' := []) (L1' := [(38, (S.1 38)), (39, (S.1 39))]) (L2' := []) (L3' := [(17, (S.2.2.1 17)), (22, o1.1), (23, o1.2)]) (L4' := [(21, (S.2.2.2.1 21)), (36, (S.2.2.2.1 36))]) (L5' := []) (cells' := 0) (slots' := 0)  (b := 0) hC dX12_daysOf_1 ⟨mw_927, mw_930, mw_5, yd_yX12_plain, yp_yX12_plain, Nat.le_of_ble_eq_true rfl, Nat.le_of_ble_eq_true rfl, (Nat.le_of_ble_eq_true rfl), (Nat.le_of_ble_eq_true rfl)⟩ mw_928 mw_929 layM_0 rfl rfl rfl (Nat.le_of_ble_eq_true rfl) (c_X12_plain (x_l X) (x_D X) (x_q X) g (x_cy X) (x_z X) _  o1 ho1) rfl rfl rfl rfl rfl rfl rfl rfl rfl rfl rfl rfl rfl rfl ?_
  refine go_aload_n (pc' := 5) hC dX12_daysOf_4 rfl rfl ?_
  obtain ⟨o2, ho2, hf⟩ := bd_e hf
  refine go_callV1 (pc' := 8) (As := []) (st := []) (st' := []) (L1' := [(38, (S.1 38)), (39, (S.1 39))]) (L2' := []) (L3' := [(17, (S.2.2.1 17)), (22, o1.1), (23, o1.2)]) (L4' := [(21, o2), (36, (S.2.2.2.1 36))]) (L5' := []) (cells' := 0) (slots' := 0)  (b := 0) hC dX12_daysOf_5 ⟨mw_935, mw_938, mw_5, yd_yX12_weighs, yp_yX12_weighs, Nat.le_of_ble_eq_true rfl, Nat.le_of_ble_eq_true rfl, (Nat.le_of_ble_eq_true rfl), (Nat.le_of_ble_eq_true rfl)⟩ mw_936 mw_937 layM_0 rfl rfl rfl (Nat.le_of_ble_eq_true rfl) (c_X12_weighs (x_l X) (x_D X) (x_q X) g (x_cy X) (x_z X) _  o2 ho2) rfl rfl rfl rfl rfl rfl rfl rfl rfl rfl rfl rfl rfl rfl ?_
  refine go_iconst (pc' := 9) hC dX12_daysOf_8 ki_0 rfl ?_
  refine go_istore_n (lc' := [(0, .ref (x_q X 0)), (1, .int p1), (2, .int p2), (3, .int (0 : Int32))]) (pc' := 10) hC dX12_daysOf_9 (Nat.le_of_ble_eq_true rfl) rfl rfl ?_
  obtain ⟨k29_4, hk29_4, hf⟩ := lk_e1 hf
  have jk29_4 : ∀ (a3 : Nat → Int64), k29_4 a3 = some o → Go X layM S 29 [(0, .ref (x_q X 0)), (1, .int p1), (2, .int p2)] [] g [(38, (S.1 38)), (39, (S.1 39))] [] [(17, (S.2.2.1 17)), (22, o1.1), (23, o1.2)] [(21, o2), (36, a3)] [] 0 0 := by
    intro a3 hf
    have hf := hk29_4 a3 hf
    clear hk29_4
    refine go_iconst (pc' := 30) hC dX12_daysOf_29 ki_0 rfl ?_
    refine go_istore_n (lc' := [(0, .ref (x_q X 0)), (1, .int p1), (2, .int p2), (3, .int (0 : Int32))]) (pc' := 31) hC dX12_daysOf_30 (Nat.le_of_ble_eq_true rfl) rfl rfl ?_
    have l31_32 : ∀ (nn : Nat) (x5 : Int32) (x6 : Int32) (x7 : Int32) (a8 : Nat → Int32) (a9 : Nat → Int64), it5 (f_X12_daysOf_L31 S p1 p2 o1 o2) nn x5 x6 x7 a8 a9 = some o → Go X layM S 31 [(0, .ref (x_q X 0)), (1, .int p1), (2, .int p2), (3, .int x5)] [] g [(38, x6), (39, x7)] [] [(17, a8), (22, o1.1), (23, o1.2)] [(21, o2), (36, a9)] [] 0 0 := by
      intro nn
      induction nn with
      | zero =>
        intro x5 x6 x7 a8 a9 hf
        exact none_no hf
      | succ nn ih =>
        intro x5 x6 x7 a8 a9 hf
        have hf : f_X12_daysOf_L31 S p1 p2 o1 o2 (it5 (f_X12_daysOf_L31 S p1 p2 o1 o2) nn) x5 x6 x7 a8 a9 = some o := hf
        generalize it5 (f_X12_daysOf_L31 S p1 p2 o1 o2) nn = r10 at ih hf
        unfold f_X12_daysOf_L31 at hf
        refine go_iload_n (pc' := 32) hC dX12_daysOf_31 rfl rfl ?_
        refine go_aload_n (pc' := 33) hC dX12_daysOf_32 rfl rfl ?_
        obtain ⟨o11, ho11, hf⟩ := bd_e hf
        refine go_callV0 (pc' := 36) (As := []) (st := [.int x5]) (st' := [.int o11, .int x5])    (b := 0) hC dX12_daysOf_33 ⟨mw_856, mw_859, mw_5, yd_yX12_sets, yp_yX12_sets, Nat.le_of_ble_eq_true rfl, Nat.le_of_ble_eq_true rfl, (Nat.le_of_ble_eq_true rfl), (Nat.le_of_ble_eq_true rfl)⟩ mw_857 mw_858 layM_0 rfl rfl rfl (Nat.le_of_ble_eq_true rfl) (c_X12_sets (x_l X) (x_D X) (x_q X) g (x_cy X) (x_z X) _  o11 ho11) rfl rfl ?_
        refine go_icmp_ge (tgt := 114) (pc' := 39) hC dX12_daysOf_36 (by decide) rfl (fun h31 => ?_) (fun h31 => ?_)
        · have hf := ite_t h31 hf
          obtain rfl := Option.some.inj hf
          exact go_vret hC hQ dX12_daysOf_114 rfl rfl rfl (fun _ => rfl) rfl rfl
        · have hf := ite_f h31 hf
          refine go_aload_n (pc' := 40) hC dX12_daysOf_39 rfl rfl ?_
          refine go_getq (pc' := 43) hC 0 45 layM_0 rfl rfl inlX12 (Nat.le_of_ble_eq_true rfl) mw_202 rfl dX12_daysOf_40 rfl ?_
          refine go_iload_n (pc' := 44) hC dX12_daysOf_43 rfl rfl ?_
          obtain ⟨h12, hf⟩ := gd_e hf
          refine go_lald (f := o2) (pc' := 45) hC 21 layM_21 rfl rfl dX12_daysOf_44 (okx_in h12) rfl ?_
          refine go_lconst (pc' := 46) hC dX12_daysOf_45 kl_0 rfl ?_
          refine go_lcmp (pc' := 47) hC dX12_daysOf_46 rfl ?_
          obtain ⟨k108_17, hk108_17, hf⟩ := lk_e4 hf
          have jk108_17 : ∀ (x13 : Int32) (x14 : Int32) (a15 : Nat → Int32) (a16 : Nat → Int64), k108_17 x13 x14 a15 a16 = some o → Go X layM S 108 [(0, .ref (x_q X 0)), (1, .int p1), (2, .int p2), (3, .int x5)] [] g [(38, x13), (39, x14)] [] [(17, a15), (22, o1.1), (23, o1.2)] [(21, o2), (36, a16)] [] 0 0 := by
            intro x13 x14 a15 a16 hf
            have hf := hk108_17 x13 x14 a15 a16 hf
            clear hk108_17
            refine go_iinc (lc' := [(0, .ref (x_q X 0)), (1, .int p1), (2, .int p2), (3, .int (x5 + (1 : Int32)))]) (pc' := 111) hC dX12_daysOf_108 rfl ki_1 (Nat.le_of_ble_eq_true rfl) rfl rfl ?_
            refine go_goto (tgt := 31) hC dX12_daysOf_111 (by decide) ?_
            exact ih (x5 + (1 : Int32)) x13 x14 a15 a16 hf
          clear hk108_17
          refine go_if_ne (tgt := 53) (pc' := 50) hC dX12_daysOf_47 (by decide) rfl (fun h30 => ?_) (fun h30 => ?_)
          · have hf := ite_f (mt lg_eq.mpr h30) hf
            refine go_aload_n (pc' := 54) hC dX12_daysOf_53 rfl rfl ?_
            refine go_iload_n (pc' := 55) hC dX12_daysOf_54 rfl rfl ?_
            refine go_iconst (pc' := 56) hC dX12_daysOf_55 ki_0 rfl ?_
            obtain ⟨o18, ho18, hf⟩ := bd_e hf
            refine go_callV1 (pc' := 59) (As := [.int x5, .int (0 : Int32)]) (st := []) (st' := []) (L1' := [(38, o18.1), (39, o18.2)]) (L2' := []) (L3' := [(17, a8), (22, o1.1), (23, o1.2)]) (L4' := [(21, o2), (36, a9)]) (L5' := []) (cells' := 0) (slots' := 0)  (b := 0) hC dX12_daysOf_56 ⟨mw_868, mw_871, mw_5, yd_yX12_opens, yp_yX12_opens, Nat.le_of_ble_eq_true rfl, Nat.le_of_ble_eq_true rfl, (Nat.le_of_ble_eq_true rfl), (Nat.le_of_ble_eq_true rfl)⟩ mw_869 mw_870 layM_0 rfl rfl rfl (Nat.le_of_ble_eq_true rfl) (c_X12_opens (x_l X) (x_D X) (x_q X) g (x_cy X) (x_z X) _ x5 (0 : Int32) o18 ho18) rfl rfl rfl rfl rfl rfl rfl rfl rfl rfl rfl rfl rfl rfl ?_
            refine go_aload_n (pc' := 60) hC dX12_daysOf_59 rfl rfl ?_
            refine go_geti (v := o18.1) (pc' := 63) hC 0 38 layM_0 rfl rfl inlX12 (Nat.le_of_ble_eq_true rfl) mw_872 rfl dX12_daysOf_60 rfl rfl ?_
            refine go_iload_n (pc' := 64) hC dX12_daysOf_63 rfl rfl ?_
            refine go_ishr (pc' := 65) hC dX12_daysOf_64 rfl ?_
            refine go_iconst (pc' := 66) hC dX12_daysOf_65 ki_1 rfl ?_
            refine go_iand (pc' := 67) hC dX12_daysOf_66 rfl ?_
            refine go_iconst (pc' := 68) hC dX12_daysOf_67 ki_1 rfl ?_
            obtain ⟨k83_21, hk83_21, hf⟩ := lk_e2 hf
            have jk83_21 : ∀ (x19 : Int32) (a20 : Nat → Int32), k83_21 x19 a20 = some o → Go X layM S 83 [(0, .ref (x_q X 0)), (1, .int p1), (2, .int p2), (3, .int x5)] [.int x19] g [(38, o18.1), (39, o18.2)] [] [(17, a20), (22, o1.1), (23, o1.2)] [(21, o2), (36, a9)] [] 0 0 := by
              intro x19 a20 hf
              have hf := hk83_21 x19 a20 hf
              clear hk83_21
              refine go_istore (lc' := [(0, .ref (x_q X 0)), (1, .int p1), (2, .int p2), (3, .int x5), (4, .int x19)]) (pc' := 85) hC dX12_daysOf_83 (Nat.le_of_ble_eq_true rfl) rfl rfl ?_
              refine go_iload (pc' := 87) hC dX12_daysOf_85 rfl rfl ?_
              refine go_bipush (pc' := 89) hC dX12_daysOf_87 kb_99 rfl ?_
              refine go_icmp_gt (tgt := 108) (pc' := 92) hC dX12_daysOf_89 (by decide) rfl (fun h27 => ?_) (fun h27 => ?_)
              · have hf := ite_t h27 hf
                refine go_sub [0, 1, 2, 3] rfl ?_
                exact jk108_17 o18.1 o18.2 a20 a9 hf
              · have hf := ite_f h27 hf
                refine go_aload_n (pc' := 93) hC dX12_daysOf_92 rfl rfl ?_
                refine go_getq (pc' := 96) hC 0 66 layM_0 rfl rfl inlX12 (Nat.le_of_ble_eq_true rfl) mw_217 rfl dX12_daysOf_93 rfl ?_
                refine go_iload (pc' := 98) hC dX12_daysOf_96 rfl rfl ?_
                refine go_dup2 (pc' := 99) hC dX12_daysOf_98 rfl rfl rfl ?_
                obtain ⟨h22, hf⟩ := gd_e hf
                refine go_lald (f := a9) (pc' := 100) hC 36 layM_36 rfl rfl dX12_daysOf_99 (okx_in h22) rfl ?_
                refine go_aload_n (pc' := 101) hC dX12_daysOf_100 rfl rfl ?_
                refine go_getq (pc' := 104) hC 0 45 layM_0 rfl rfl inlX12 (Nat.le_of_ble_eq_true rfl) mw_202 rfl dX12_daysOf_101 rfl ?_
                refine go_iload_n (pc' := 105) hC dX12_daysOf_104 rfl rfl ?_
                obtain ⟨h23, hf⟩ := gd_e hf
                refine go_lald (f := o2) (pc' := 106) hC 21 layM_21 rfl rfl dX12_daysOf_105 (okx_in h23) rfl ?_
                refine go_ladd (pc' := 107) hC dX12_daysOf_106 rfl ?_
                refine go_namel (fun x24 hx => ?_)
                have hf := lz_r hx hf
                clear hx
                obtain ⟨h25, hf⟩ := gd_e hf
                refine go_last (f := a9) (pc' := 108) hC 36 layM_36 rfl rfl dX12_daysOf_107 (okx_in h25) rfl rfl (fun a26 ha L4' hL => ?_)
                have hf := lz_r ha hf
                clear ha
                obtain rfl : L4' = [(21, o2), (36, a26)] := hL.symm
                refine go_sub [0, 1, 2, 3] rfl ?_
                exact jk108_17 o18.1 o18.2 a20 a26 hf
            clear hk83_21
            refine go_icmp_ne (tgt := 80) (pc' := 71) hC dX12_daysOf_68 (by decide) rfl (fun h29 => ?_) (fun h29 => ?_)
            · have hf := ite_f h29 hf
              refine go_sipush (pc' := 83) hC dX12_daysOf_80 ks_1000 rfl ?_
              exact jk83_21 (1000 : Int32) a8 hf
            · have hf := ite_t h29 hf
              refine go_aload_n (pc' := 72) hC dX12_daysOf_71 rfl rfl ?_
              refine go_iload_n (pc' := 73) hC dX12_daysOf_72 rfl rfl ?_
              refine go_iload_n (pc' := 74) hC dX12_daysOf_73 rfl rfl ?_
              obtain ⟨o28, ho28, hf⟩ := bd_e hf
              refine go_callV1 (pc' := 77) (As := [.int p1, .int p2]) (st := []) (st' := [.int o28.1]) (L1' := [(38, o18.1), (39, o18.2)]) (L2' := []) (L3' := [(17, o28.2), (22, o1.1), (23, o1.2)]) (L4' := [(21, o2), (36, a9)]) (L5' := []) (cells' := 0) (slots' := 0)  (b := 0) hC dX12_daysOf_74 ⟨mw_893, mw_896, mw_5, yd_yX12_daysTo, yp_yX12_daysTo, Nat.le_of_ble_eq_true rfl, Nat.le_of_ble_eq_true rfl, (Nat.le_of_ble_eq_true rfl), (Nat.le_of_ble_eq_true rfl)⟩ mw_894 mw_895 layM_0 rfl rfl rfl (Nat.le_of_ble_eq_true rfl) (c_X12_daysTo (x_l X) (x_D X) (x_q X) g (x_cy X) (x_z X) _ p1 p2 o28 ho28) rfl rfl rfl rfl rfl rfl rfl rfl rfl rfl rfl rfl rfl rfl ?_
              refine go_goto (tgt := 83) hC dX12_daysOf_77 (by decide) ?_
              exact jk83_21 o28.1 o28.2 hf
          · have hf := ite_t (lg_eq.mp h30) hf
            refine go_goto (tgt := 108) hC dX12_daysOf_50 (by decide) ?_
            exact jk108_17 x6 x7 a8 a9 hf
    exact l31_32 fuel (0 : Int32) (S.1 38) (S.1 39) (S.2.2.1 17) a3 hf
  clear hk29_4
  have l10_39 : ∀ (nn : Nat) (x33 : Int32) (a34 : Nat → Int64), it2 (f_X12_daysOf_L10 k29_4) nn x33 a34 = some o → Go X layM S 10 [(0, .ref (x_q X 0)), (1, .int p1), (2, .int p2), (3, .int x33)] [] g [(38, (S.1 38)), (39, (S.1 39))] [] [(17, (S.2.2.1 17)), (22, o1.1), (23, o1.2)] [(21, o2), (36, a34)] [] 0 0 := by
    intro nn
    induction nn with
    | zero =>
      intro x33 a34 hf
      exact none_no hf
    | succ nn ih =>
      intro x33 a34 hf
      have hf : f_X12_daysOf_L10 k29_4 (it2 (f_X12_daysOf_L10 k29_4) nn) x33 a34 = some o := hf
      generalize it2 (f_X12_daysOf_L10 k29_4) nn = r35 at ih hf
      unfold f_X12_daysOf_L10 at hf
      refine go_iload_n (pc' := 11) hC dX12_daysOf_10 rfl rfl ?_
      refine go_bipush (pc' := 13) hC dX12_daysOf_11 kb_99 rfl ?_
      refine go_icmp_gt (tgt := 29) (pc' := 16) hC dX12_daysOf_13 (by decide) rfl (fun h38 => ?_) (fun h38 => ?_)
      · have hf := ite_t h38 hf
        refine go_sub [0, 1, 2] rfl ?_
        exact jk29_4 a34 hf
      · have hf := ite_f h38 hf
        refine go_aload_n (pc' := 17) hC dX12_daysOf_16 rfl rfl ?_
        refine go_getq (pc' := 20) hC 0 66 layM_0 rfl rfl inlX12 (Nat.le_of_ble_eq_true rfl) mw_217 rfl dX12_daysOf_17 rfl ?_
        refine go_iload_n (pc' := 21) hC dX12_daysOf_20 rfl rfl ?_
        refine go_lconst (pc' := 22) hC dX12_daysOf_21 kl_0 rfl ?_
        obtain ⟨h36, hf⟩ := gd_e hf
        refine go_last (f := a34) (pc' := 23) hC 36 layM_36 rfl rfl dX12_daysOf_22 (okx_in h36) rfl rfl (fun a37 ha L4' hL => ?_)
        have hf := lz_r ha hf
        clear ha
        obtain rfl : L4' = [(21, o2), (36, a37)] := hL.symm
        refine go_iinc (lc' := [(0, .ref (x_q X 0)), (1, .int p1), (2, .int p2), (3, .int (x33 + (1 : Int32)))]) (pc' := 26) hC dX12_daysOf_23 rfl ki_1 (Nat.le_of_ble_eq_true rfl) rfl rfl ?_
        refine go_goto (tgt := 10) hC dX12_daysOf_26 (by decide) ?_
        exact ih (x33 + (1 : Int32)) a37 hf
  exact l10_39 fuel (0 : Int32) (S.2.2.2.1 36) hf
