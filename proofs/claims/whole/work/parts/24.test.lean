abbrev iX11_has : zI := (RX11, cX11_has, 2, (Option.some .int), false)
def tX11_has : List (Nat × Instr × Nat) := [(0, .iload_n 1, 1), (1, .tableswitch 136 0 9 #[55, 65, 75, 83, 91, 99, 107, 115, 123, 128], 55), (56, .aload_n 0, 1), (57, .getfield 51, 3), (60, .getfield 160, 3), (63, .iconst 0, 1), (64, .iaload, 1), (65, .ireturn, 1), (66, .aload_n 0, 1), (67, .getfield 51, 3), (70, .getfield 160, 3), (73, .iconst 1, 1), (74, .iaload, 1), (75, .ireturn, 1), (76, .aload_n 0, 1), (77, .getfield 51, 3), (80, .getfield 163, 3), (83, .ireturn, 1), (84, .aload_n 0, 1), (85, .getfield 61, 3), (88, .getfield 166, 3), (91, .ireturn, 1), (92, .aload_n 0, 1), (93, .getfield 61, 3), (96, .getfield 169, 3), (99, .ireturn, 1), (100, .aload_n 0, 1), (101, .getfield 51, 3), (104, .getfield 172, 3), (107, .ireturn, 1), (108, .aload_n 0, 1), (109, .getfield 61, 3), (112, .invokevirtual 175, 3), (115, .ireturn, 1), (116, .aload_n 0, 1), (117, .getfield 93, 3), (120, .invokevirtual 178, 3), (123, .ireturn, 1), (124, .aload_n 0, 1), (125, .getfield 100, 3), (128, .ireturn, 1), (129, .aload_n 0, 1), (130, .getfield 93, 3), (133, .getfield 181, 3), (136, .ireturn, 1), (137, .iconst (-1), 1), (138, .ireturn, 1)]
set_option maxRecDepth 100000 in
theorem tkX11_has : ∀ q ∈ tX11_has, decode cX11_has q.1 = .ok q.2 := by decide +kernel
theorem t1 : decode cX11_has 1 = .ok (.tableswitch 136 0 9 #[55, 65, 75, 83, 91, 99, 107, 115, 123, 128], 55) := tkX11_has (1, .tableswitch 136 0 9 #[55, 65, 75, 83, 91, 99, 107, 115, 123, 128], 55) (by decide +kernel)
theorem t2 : decode cX11_has 1 = .ok (.tableswitch 136 0 9 #[55, 65, 75, 83, 91, 99, 107, 115, 123, 128], 55) := zdk (cc := cX11_has) (q := (1, .tableswitch 136 0 9 #[55, 65, 75, 83, 91, 99, 107, 115, 123, 128], 55)) tkX11_has 1 (by decide +kernel)
theorem t3 : decode cX11_has 1 = .ok (.tableswitch 136 0 9 #[55, 65, 75, 83, 91, 99, 107, 115, 123, 128], 55) := zdk (cc := cX11_has) (q := (1, .tableswitch 136 0 9 #[55, 65, 75, 83, 91, 99, 107, 115, 123, 128], 55)) tkX11_has 1 rfl
theorem t4 {l : Launch} {d rc rs : Nat} {L : List (Nat × Value)} {S : List Value} {g : zM} {F : Nat → zM} {x : Int32} (k0 : zCo l d rc rs iX11_has 137 L S g) : zCo l d rc rs iX11_has 1 L (.int x :: S) (z_if (x.toInt < 0 ∨ 9 < x.toInt) g (F (x.toInt - 0).toNat)) := by
  refine zco_tab t1 (t0 := 137) rfl [56, 66, 76, 84, 92, 100, 108, 116, 124, 129] F (by decide) (by decide) ?_ (fun j t ht => ?_)
  · exact k0
  · sorry
theorem t5 {l : Launch} {d rc rs : Nat} {L : List (Nat × Value)} {S : List Value} {g : zM} {F : Nat → zM} {x : Int32} (k0 : zCo l d rc rs iX11_has 137 L S g) : zCo l d rc rs iX11_has 1 L (.int x :: S) (z_if (x.toInt < 0 ∨ 9 < x.toInt) g (F (x.toInt - 0).toNat)) := by
  refine zco_tab (dflt := 136) (lo := 0) (hi := 9) (offs := #[55, 65, 75, 83, 91, 99, 107, 115, 123, 128]) (len := 55) t1 (t0 := 137) rfl [56, 66, 76, 84, 92, 100, 108, 116, 124, 129] F (by decide) (by decide) ?_ (fun j t ht => ?_)
  · exact k0
  · sorry
