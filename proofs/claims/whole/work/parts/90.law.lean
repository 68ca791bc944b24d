/-! The law: rows. -/
theorem gBigW {c0 : Cond} {y : MethodName} {bytes : ByteArray} {maxL : Nat} {ret : Option FieldType} {hh : List (Nat × Nat × Nat × Nat)} (h : Cond.codeWith y bytes maxL ret hh ∈ BIG) : GoodIn (c0 :: BIG) (Cond.codeWith y bytes maxL ret hh :: BIG) := by
  intro w hw
  rcases List.mem_cons.mp hw with rfl | hw
  · exact ⟨List.mem_cons_of_mem _ h, Or.inl rfl⟩
  · exact ⟨List.mem_cons_of_mem _ hw, bigGood w hw⟩
section LC
variable {p : Program} {l : Launch} {e : Env} {R : Room} {s : State} {m : MethodId} {args : Array Value} {below : List Frame} {meth : Method} {c : Code} {H H0 : Heap} {locs : List Loc} {cells slots : Nat} {Q : State → Prop}
variable {cc : ByteArray} {nL : Nat} {own : String} {c0 : Cond} {y : MethodName} {bytes : ByteArray} {maxL n index : Nat} {ret : Option FieldType} {hh : List (Nat × Nat × Nat × Nat)} {rm : Room} {As rest st0 : List Value} {pc : Nat} {ls : Array Slot}
variable {D : va_G} {A : Nat → Prop} {tys : List (ClassId × FieldType)} {w0 : va_W} {E : State → Prop} {Qc : Array Value → State → Outcome → State → Prop}
theorem q_sld {b L : Nat} {xs : Nat → Int32} (hx : p.tables.exec = Jvm.exec) (hb : c.code = cc) (hX : va_X b L xs s H0) (hbl : b < H0.size) (hbA : ¬ A b) (hS : va_S A H0 H locs) {i : Int32} {j : Nat} (hi : i = nI j) (hj : j < L) (hL : L ≤ 3584) (hdg : decode cc pc = .ok (.iaload, 1))
    (kk : W p l e R s m args below meth c H locs cells slots Q (F0 m (pc + 1) ls (.int (xs j) :: rest))) : W p l e R s m args below meth c H locs cells slots Q (F0 m pc ls (.int i :: .ref b :: rest)) := by
  subst hi
  refine va_sld hx hb hX hbl hbA hS (vp_in_nI hj (by omega)) hdg ?_
  rw [nI_clamp (by omega)]
  exact kk
theorem q_HS (hx : p.tables.exec = Jvm.exec) (hb : c.code = cc) (hml : c.maxLocals = nL) (hown : s.vm.findClass own = some m.cls) (hts : ∀ w ∈ c0 :: BIG, w.before args s = true)
    (hM : vx_Met l y (Cond.codeWith y bytes maxL ret hh :: BIG) rm (va_Pc As (ePre D A tys w0 E)) Qc (fun _ _ _ => False) 1 6 A) (hrc : rm.cells = 1) (hrs : rm.slots = 6)
    (hcode : Cond.codeWith y bytes maxL ret hh ∈ BIG) (hlk : Cond.methodLink own index y ∈ BIG) (hst : Cond.static y ∈ BIG) (hini : Cond.initialized y.cls ∈ BIG)
    (hd : y.cls ≠ "java/lang/invoke/MethodHandle" ∧ y.cls ≠ "java/lang/invoke/VarHandle" ∧ (parseMethodDescriptor y.desc).map (fun d => d.parameters.length) = some n)
    (hR : rm.frames + 1 ≤ R.frames ∧ 8 + (maxL + 11) + rm.locals ≤ R.locals) (hbl : ∀ (U : State) (g : JFrame) (mk : MethodId) (a : Array Value), E U → E (U.calling g mk a)) (hpe : ∀ U : State, U.heap = H → s.WarmedH U.vm → E U) (hN : nB s) (hK : va_K D cls tys s) (hP : va_P D cls w0 H) (hD : va_D A w0) (hS : va_S A H0 H locs)
    (hn : As.length = n) (hsize : ls.size = nL) (hstack : st0 = As.reverse ++ rest) (hW : (rest.map fun v => v.category).sum ≤ 8) (hdg : decode cc pc = .ok (.invokestatic index, 3)) (hcap : cells + 1 ≤ R.cells ∧ slots + 6 ≤ R.slots)
    (kk : ∀ (v : Option Value) (st t : State) (locs1 : List Loc), Qc As.toArray st (.returned v) t → st.heap = H → (va_F A st t → va_S A H0 t.heap locs1) → W p l e R s m args below meth c t.heap locs1 (cells + 1) (slots + 6) Q (F0 m (pc + 3) ls (v.toList ++ rest))) : W p l e R s m args below meth c H locs cells slots Q (F0 m pc ls st0) := by
  have hT : ∀ w ∈ BIG, w.before args s = true := fun w h => hts w (List.mem_cons_of_mem _ h)
  have hr := vx_runSX (p := p) (e := e) (m := m) (below := below) (meth := meth) (c := c) (H := H) (locs := locs) (cells := cells) (slots := slots) (g := F0 m pc ls st0) (rest := rest) (Ts := c0 :: BIG) (own := own) (index := index) (n := n) ⟨hx, hb, hml, hown, hts⟩ hM ⟨⟨hrc, hrs, hR.1, hR.2, pay_in hts (gBigW hcode), List.mem_cons_self⟩, hT _ hcode, hT _ hini, ⟨hd.1, hd.2.1⟩, fun sig h => by have h2 := hd.2.2; rw [h] at h2; exact (Option.some.inj h2).symm, hT _ hlk, hT _ hst⟩ ⟨fun a U g mk q => ⟨q.1, gPre_bl U g mk a q.2.1, hbl U g mk a q.2.2⟩, fun U hU hW => ⟨rfl, ⟨nB_mv hW hN, by rw [hU]; exact hP, va_K.moved hW.alike hK, hD⟩, hpe U hU hW⟩⟩ rfl hn hsize hstack (lv_room hW) hdg hcap
  intro T hT X
  rcases hr T hT X with ⟨v, st₀, t, T', L, h0, X', hL, e1, e2, hq, st⟩ | ⟨q, st₀, t, T', L, E', ce, h0, X', hL, e1, e2, hF, -⟩
  · obtain ⟨t2, a1, b1⟩ := kk v st₀ t (locs ++ L) hq h0 (fun hF => ⟨Nat.le_trans hS.1 (by rw [← h0]; exact hF.1), fun q h1 h2 => by rw [hF.2 q (by rw [h0]; exact Nat.lt_of_lt_of_le h1 hS.1) h2, h0]; exact hS.2.1 q h1 h2, fun q hq => by
      rcases List.mem_append.mp hq with h | h
      · exact hS.2.2 q h
      · exact hL q h⟩) T' e1 X'
    exact ⟨t2, st t2 a1, b1⟩
  · exact hF.elim
end LC
theorem textX_bad {n : Nat} {a1 : Int64} {a2 : Int32} (h : a2 < 1 ∨ ¬ a2 ≤ 6) : F_PB_textX n a1 a2 = some (.inl 1) := by
  unfold F_PB_textX
  simp only [lt_]
  by_cases q : a2 < 1
  · rw [if_pos q]
  · rw [if_neg q, if_neg (h.resolve_left q)]
theorem nI_k {k : Nat} (h : k = 1 ∨ k = 2) : ¬ nI k = 0 := by rcases h with rfl | rfl <;> decide

theorem to_M {D : va_G} {cI cL cC : ClassId} {adC adM : Nat → Nat} {ao : Nat} {fo : Nat → Int64} {len : Int32} {tk : Int32} {row : Nat → Int32} {dig : Int64} {pw : Int32} {used : Int32} {lost : Int32} {lim : Nat → Int64} {laid : Int32} {gone : Int32} {thr : Int32} {m1 : Int64} {m2 : Int64} {e1 : Int32} {e2 : Int32} {mi1 : Int32} {mi2 : Int32} {na1 : Int32} {na2 : Int32} {fa1 : Int32} {fa2 : Int32} {lets : Nat → Int32} {rlen : Int32} {rlaid : Int32} {rgone : Int32} {rthr : Int32} {were : Int32} {none_ : Int32} {beyo : Int32} {aN : Int32} {bN : Int32} {fN : Int32} {lN_ : Int32} {rN : Int32} {pN : Int32} {twos : Int32} {at_ : Int32} {rdig : Int32} {rpow : Int32} {good : Int32} {txt : Nat → Int32} {wri : Nat → Int32} {ra : Nat → Int32} {rb : Nat → Int32} {rfive : Nat → Int32} {rleft : Nat → Int32} {rright : Nat → Int32} {rpart : Nat → Int32} {H : Heap} (h : va_P D cls (gC cI cL cC adC ((ao, .inl (cL, 1, .inr (.inl fo))) :: gM cI cL cC adM [] laid gone thr m1 m2 e1 e2 mi1 mi2 na1 na2 fa1 fa2 lets rlen rlaid rgone rthr were none_ beyo aN bN fN lN_ rN pN twos at_ rdig rpow good txt wri ra rb rfive rleft rright rpart) len tk row dig pw used lost lim) H) : va_P D cls (gM cI cL cC adM (gC cI cL cC adC [(ao, .inl (cL, 1, .inr (.inl fo)))] len tk row dig pw used lost lim) laid gone thr m1 m2 e1 e2 mi1 mi2 na1 na2 fa1 fa2 lets rlen rlaid rgone rthr were none_ beyo aN bN fN lN_ rN pN twos at_ rdig rpow good txt wri ra rb rfive rleft rright rpart) H := h.sub [7, 8, 9, 10, 11, 12, 13, 14, 15, 16, 17, 0, 1, 2, 3, 4, 5, 6] rfl
theorem to_C {D : va_G} {cI cL cC : ClassId} {adC adM : Nat → Nat} {ao : Nat} {fo : Nat → Int64} {len : Int32} {tk : Int32} {row : Nat → Int32} {dig : Int64} {pw : Int32} {used : Int32} {lost : Int32} {lim : Nat → Int64} {laid : Int32} {gone : Int32} {thr : Int32} {m1 : Int64} {m2 : Int64} {e1 : Int32} {e2 : Int32} {mi1 : Int32} {mi2 : Int32} {na1 : Int32} {na2 : Int32} {fa1 : Int32} {fa2 : Int32} {lets : Nat → Int32} {rlen : Int32} {rlaid : Int32} {rgone : Int32} {rthr : Int32} {were : Int32} {none_ : Int32} {beyo : Int32} {aN : Int32} {bN : Int32} {fN : Int32} {lN_ : Int32} {rN : Int32} {pN : Int32} {twos : Int32} {at_ : Int32} {rdig : Int32} {rpow : Int32} {good : Int32} {txt : Nat → Int32} {wri : Nat → Int32} {ra : Nat → Int32} {rb : Nat → Int32} {rfive : Nat → Int32} {rleft : Nat → Int32} {rright : Nat → Int32} {rpart : Nat → Int32} {H : Heap} (h : va_P D cls (gM cI cL cC adM (gC cI cL cC adC [(ao, .inl (cL, 1, .inr (.inl fo)))] len tk row dig pw used lost lim) laid gone thr m1 m2 e1 e2 mi1 mi2 na1 na2 fa1 fa2 lets rlen rlaid rgone rthr were none_ beyo aN bN fN lN_ rN pN twos at_ rdig rpow good txt wri ra rb rfive rleft rright rpart) H) : va_P D cls (gC cI cL cC adC ((ao, .inl (cL, 1, .inr (.inl fo))) :: gM cI cL cC adM [] laid gone thr m1 m2 e1 e2 mi1 mi2 na1 na2 fa1 fa2 lets rlen rlaid rgone rthr were none_ beyo aN bN fN lN_ rN pN twos at_ rdig rpow good txt wri ra rb rfive rleft rright rpart) len tk row dig pw used lost lim) H := h.sub [11, 12, 13, 14, 15, 16, 17, 0, 1, 2, 3, 4, 5, 6, 7, 8, 9, 10] rfl
theorem to_Md {A : Nat → Prop} {cI cL cC : ClassId} {adC adM : Nat → Nat} {ao : Nat} {fo : Nat → Int64} {len : Int32} {tk : Int32} {row : Nat → Int32} {dig : Int64} {pw : Int32} {used : Int32} {lost : Int32} {lim : Nat → Int64} {laid : Int32} {gone : Int32} {thr : Int32} {m1 : Int64} {m2 : Int64} {e1 : Int32} {e2 : Int32} {mi1 : Int32} {mi2 : Int32} {na1 : Int32} {na2 : Int32} {fa1 : Int32} {fa2 : Int32} {lets : Nat → Int32} {rlen : Int32} {rlaid : Int32} {rgone : Int32} {rthr : Int32} {were : Int32} {none_ : Int32} {beyo : Int32} {aN : Int32} {bN : Int32} {fN : Int32} {lN_ : Int32} {rN : Int32} {pN : Int32} {twos : Int32} {at_ : Int32} {rdig : Int32} {rpow : Int32} {good : Int32} {txt : Nat → Int32} {wri : Nat → Int32} {ra : Nat → Int32} {rb : Nat → Int32} {rfive : Nat → Int32} {rleft : Nat → Int32} {rright : Nat → Int32} {rpart : Nat → Int32} (h : va_D A (gC cI cL cC adC ((ao, .inl (cL, 1, .inr (.inl fo))) :: gM cI cL cC adM [] laid gone thr m1 m2 e1 e2 mi1 mi2 na1 na2 fa1 fa2 lets rlen rlaid rgone rthr were none_ beyo aN bN fN lN_ rN pN twos at_ rdig rpow good txt wri ra rb rfive rleft rright rpart) len tk row dig pw used lost lim)) : va_D A (gM cI cL cC adM (gC cI cL cC adC [(ao, .inl (cL, 1, .inr (.inl fo)))] len tk row dig pw used lost lim) laid gone thr m1 m2 e1 e2 mi1 mi2 na1 na2 fa1 fa2 lets rlen rlaid rgone rthr were none_ beyo aN bN fN lN_ rN pN twos at_ rdig rpow good txt wri ra rb rfive rleft rright rpart) := h.sub [7, 8, 9, 10, 11, 12, 13, 14, 15, 16, 17, 0, 1, 2, 3, 4, 5, 6] (by decide) rfl
theorem to_Cd {A : Nat → Prop} {cI cL cC : ClassId} {adC adM : Nat → Nat} {ao : Nat} {fo : Nat → Int64} {len : Int32} {tk : Int32} {row : Nat → Int32} {dig : Int64} {pw : Int32} {used : Int32} {lost : Int32} {lim : Nat → Int64} {laid : Int32} {gone : Int32} {thr : Int32} {m1 : Int64} {m2 : Int64} {e1 : Int32} {e2 : Int32} {mi1 : Int32} {mi2 : Int32} {na1 : Int32} {na2 : Int32} {fa1 : Int32} {fa2 : Int32} {lets : Nat → Int32} {rlen : Int32} {rlaid : Int32} {rgone : Int32} {rthr : Int32} {were : Int32} {none_ : Int32} {beyo : Int32} {aN : Int32} {bN : Int32} {fN : Int32} {lN_ : Int32} {rN : Int32} {pN : Int32} {twos : Int32} {at_ : Int32} {rdig : Int32} {rpow : Int32} {good : Int32} {txt : Nat → Int32} {wri : Nat → Int32} {ra : Nat → Int32} {rb : Nat → Int32} {rfive : Nat → Int32} {rleft : Nat → Int32} {rright : Nat → Int32} {rpart : Nat → Int32} (h : va_D A (gM cI cL cC adM (gC cI cL cC adC [(ao, .inl (cL, 1, .inr (.inl fo)))] len tk row dig pw used lost lim) laid gone thr m1 m2 e1 e2 mi1 mi2 na1 na2 fa1 fa2 lets rlen rlaid rgone rthr were none_ beyo aN bN fN lN_ rN pN twos at_ rdig rpow good txt wri ra rb rfive rleft rright rpart)) : va_D A (gC cI cL cC adC ((ao, .inl (cL, 1, .inr (.inl fo))) :: gM cI cL cC adM [] laid gone thr m1 m2 e1 e2 mi1 mi2 na1 na2 fa1 fa2 lets rlen rlaid rgone rthr were none_ beyo aN bN fN lN_ rN pN twos at_ rdig rpow good txt wri ra rb rfive rleft rright rpart) len tk row dig pw used lost lim) := h.sub [11, 12, 13, 14, 15, 16, 17, 0, 1, 2, 3, 4, 5, 6, 7, 8, 9, 10] (by decide) rfl
theorem d_law_23 : decode code 23 = .ok (.iload 4, 2) := by decide +kernel
theorem d_law_25 : decode code 25 = .ok (.aload_n 0, 1) := by decide +kernel
theorem d_law_26 : decode code 26 = .ok (.arraylength, 1) := by decide +kernel
theorem d_law_27 : decode code 27 = .ok (.bipush 7, 2) := by decide +kernel
theorem d_law_29 : decode code 29 = .ok (.isub, 1) := by decide +kernel
theorem d_law_30 : decode code 30 = .ok (.if_icmp .gt 681, 3) := by decide +kernel
theorem d_law_33 : decode code 33 = .ok (.aload_n 0, 1) := by decide +kernel
theorem d_law_34 : decode code 34 = .ok (.iload 4, 2) := by decide +kernel
theorem d_law_36 : decode code 36 = .ok (.iaload, 1) := by decide +kernel
theorem d_law_37 : decode code 37 = .ok (.bipush 7, 2) := by decide +kernel
theorem d_law_39 : decode code 39 = .ok (.iand, 1) := by decide +kernel
theorem d_law_40 : decode code 40 = .ok (.tableswitch 665 0 5 #[40, 197, 296, 407, 551, 651], 40) := by decide +kernel
theorem d_law_80 : decode code 80 = .ok (.aload_n 1, 1) := by decide +kernel
theorem d_law_81 : decode code 81 = .ok (.aload_n 0, 1) := by decide +kernel
theorem d_law_82 : decode code 82 = .ok (.iload 4, 2) := by decide +kernel
theorem d_law_84 : decode code 84 = .ok (.iconst 1, 1) := by decide +kernel
theorem d_law_85 : decode code 85 = .ok (.iadd, 1) := by decide +kernel
theorem d_law_86 : decode code 86 = .ok (.iaload, 1) := by decide +kernel
theorem d_law_87 : decode code 87 = .ok (.aload_n 0, 1) := by decide +kernel
theorem d_law_88 : decode code 88 = .ok (.iload 4, 2) := by decide +kernel
theorem d_law_90 : decode code 90 = .ok (.iconst 2, 1) := by decide +kernel
theorem d_law_91 : decode code 91 = .ok (.iadd, 1) := by decide +kernel
theorem d_law_92 : decode code 92 = .ok (.iaload, 1) := by decide +kernel
theorem d_law_93 : decode code 93 = .ok (.i2l, 1) := by decide +kernel
theorem d_law_94 : decode code 94 = .ok (.bipush 32, 2) := by decide +kernel
theorem d_law_96 : decode code 96 = .ok (.lshl, 1) := by decide +kernel
theorem d_law_97 : decode code 97 = .ok (.aload_n 0, 1) := by decide +kernel
theorem d_law_98 : decode code 98 = .ok (.iload 4, 2) := by decide +kernel
theorem d_law_100 : decode code 100 = .ok (.iconst 3, 1) := by decide +kernel
theorem d_law_101 : decode code 101 = .ok (.iadd, 1) := by decide +kernel
theorem d_law_102 : decode code 102 = .ok (.iaload, 1) := by decide +kernel
theorem d_law_103 : decode code 103 = .ok (.i2l, 1) := by decide +kernel
theorem d_law_104 : decode code 104 = .ok (.ldc2_w 37, 3) := by decide +kernel
theorem d_law_107 : decode code 107 = .ok (.land, 1) := by decide +kernel
theorem d_law_108 : decode code 108 = .ok (.lor, 1) := by decide +kernel
theorem d_law_109 : decode code 109 = .ok (.aload_n 0, 1) := by decide +kernel
theorem d_law_110 : decode code 110 = .ok (.iload 4, 2) := by decide +kernel
theorem d_law_112 : decode code 112 = .ok (.iconst 4, 1) := by decide +kernel
theorem d_law_113 : decode code 113 = .ok (.iadd, 1) := by decide +kernel
theorem d_law_114 : decode code 114 = .ok (.iaload, 1) := by decide +kernel
theorem d_law_115 : decode code 115 = .ok (.i2l, 1) := by decide +kernel
theorem d_law_116 : decode code 116 = .ok (.bipush 32, 2) := by decide +kernel
theorem d_law_118 : decode code 118 = .ok (.lshl, 1) := by decide +kernel
theorem d_law_119 : decode code 119 = .ok (.aload_n 0, 1) := by decide +kernel
theorem d_law_120 : decode code 120 = .ok (.iload 4, 2) := by decide +kernel
theorem d_law_122 : decode code 122 = .ok (.iconst 5, 1) := by decide +kernel
theorem d_law_123 : decode code 123 = .ok (.iadd, 1) := by decide +kernel
theorem d_law_124 : decode code 124 = .ok (.iaload, 1) := by decide +kernel
theorem d_law_125 : decode code 125 = .ok (.i2l, 1) := by decide +kernel
theorem d_law_126 : decode code 126 = .ok (.ldc2_w 37, 3) := by decide +kernel
theorem d_law_129 : decode code 129 = .ok (.land, 1) := by decide +kernel
theorem d_law_130 : decode code 130 = .ok (.lor, 1) := by decide +kernel
theorem d_law_131 : decode code 131 = .ok (.aload_n 0, 1) := by decide +kernel
theorem d_law_132 : decode code 132 = .ok (.iload 4, 2) := by decide +kernel
theorem d_law_134 : decode code 134 = .ok (.bipush 6, 2) := by decide +kernel
theorem d_law_136 : decode code 136 = .ok (.iadd, 1) := by decide +kernel
theorem d_law_137 : decode code 137 = .ok (.iaload, 1) := by decide +kernel
theorem d_law_138 : decode code 138 = .ok (.aload_n 3, 1) := by decide +kernel
theorem d_law_139 : decode code 139 = .ok (.invokestatic 39, 3) := by decide +kernel
theorem d_law_142 : decode code 142 = .ok (.istore 5, 2) := by decide +kernel
theorem d_law_144 : decode code 144 = .ok (.aload_n 2, 1) := by decide +kernel
theorem d_law_145 : decode code 145 = .ok (.aload_n 0, 1) := by decide +kernel
theorem d_law_146 : decode code 146 = .ok (.iload 4, 2) := by decide +kernel
theorem d_law_148 : decode code 148 = .ok (.iconst 1, 1) := by decide +kernel
theorem d_law_149 : decode code 149 = .ok (.iadd, 1) := by decide +kernel
theorem d_law_150 : decode code 150 = .ok (.iaload, 1) := by decide +kernel
theorem d_law_151 : decode code 151 = .ok (.aload_n 0, 1) := by decide +kernel
theorem d_law_152 : decode code 152 = .ok (.iload 4, 2) := by decide +kernel
theorem d_law_154 : decode code 154 = .ok (.iconst 2, 1) := by decide +kernel
theorem d_law_155 : decode code 155 = .ok (.iadd, 1) := by decide +kernel
theorem d_law_156 : decode code 156 = .ok (.iaload, 1) := by decide +kernel
theorem d_law_157 : decode code 157 = .ok (.i2l, 1) := by decide +kernel
theorem d_law_158 : decode code 158 = .ok (.bipush 32, 2) := by decide +kernel
theorem d_law_160 : decode code 160 = .ok (.lshl, 1) := by decide +kernel
theorem d_law_161 : decode code 161 = .ok (.aload_n 0, 1) := by decide +kernel
theorem d_law_162 : decode code 162 = .ok (.iload 4, 2) := by decide +kernel
theorem d_law_164 : decode code 164 = .ok (.iconst 3, 1) := by decide +kernel
theorem d_law_165 : decode code 165 = .ok (.iadd, 1) := by decide +kernel
theorem d_law_166 : decode code 166 = .ok (.iaload, 1) := by decide +kernel
theorem d_law_167 : decode code 167 = .ok (.i2l, 1) := by decide +kernel
theorem d_law_168 : decode code 168 = .ok (.ldc2_w 37, 3) := by decide +kernel
theorem d_law_171 : decode code 171 = .ok (.land, 1) := by decide +kernel
theorem d_law_172 : decode code 172 = .ok (.lor, 1) := by decide +kernel
theorem d_law_173 : decode code 173 = .ok (.aload_n 0, 1) := by decide +kernel
theorem d_law_174 : decode code 174 = .ok (.iload 4, 2) := by decide +kernel
theorem d_law_176 : decode code 176 = .ok (.iconst 4, 1) := by decide +kernel
theorem d_law_177 : decode code 177 = .ok (.iadd, 1) := by decide +kernel
theorem d_law_178 : decode code 178 = .ok (.iaload, 1) := by decide +kernel
theorem d_law_179 : decode code 179 = .ok (.i2l, 1) := by decide +kernel
theorem d_law_180 : decode code 180 = .ok (.bipush 32, 2) := by decide +kernel
theorem d_law_182 : decode code 182 = .ok (.lshl, 1) := by decide +kernel
theorem d_law_183 : decode code 183 = .ok (.aload_n 0, 1) := by decide +kernel
theorem d_law_184 : decode code 184 = .ok (.iload 4, 2) := by decide +kernel
theorem d_law_186 : decode code 186 = .ok (.iconst 5, 1) := by decide +kernel
theorem d_law_187 : decode code 187 = .ok (.iadd, 1) := by decide +kernel
theorem d_law_188 : decode code 188 = .ok (.iaload, 1) := by decide +kernel
theorem d_law_189 : decode code 189 = .ok (.i2l, 1) := by decide +kernel
theorem d_law_190 : decode code 190 = .ok (.ldc2_w 37, 3) := by decide +kernel
theorem d_law_193 : decode code 193 = .ok (.land, 1) := by decide +kernel
theorem d_law_194 : decode code 194 = .ok (.lor, 1) := by decide +kernel
theorem d_law_195 : decode code 195 = .ok (.aload_n 0, 1) := by decide +kernel
theorem d_law_196 : decode code 196 = .ok (.iload 4, 2) := by decide +kernel
theorem d_law_198 : decode code 198 = .ok (.bipush 6, 2) := by decide +kernel
theorem d_law_200 : decode code 200 = .ok (.iadd, 1) := by decide +kernel
theorem d_law_201 : decode code 201 = .ok (.iaload, 1) := by decide +kernel
theorem d_law_202 : decode code 202 = .ok (.invokevirtual 44, 3) := by decide +kernel
theorem d_law_205 : decode code 205 = .ok (.lstore 6, 2) := by decide +kernel
theorem d_law_207 : decode code 207 = .ok (.aload_n 2, 1) := by decide +kernel
theorem d_law_208 : decode code 208 = .ok (.invokevirtual 45, 3) := by decide +kernel
theorem d_law_211 : decode code 211 = .ok (.iload 5, 2) := by decide +kernel
theorem d_law_213 : decode code 213 = .ok (.if_icmp .eq 5, 3) := by decide +kernel
theorem d_law_218 : decode code 218 = .ok (.iload 5, 2) := by decide +kernel
theorem d_law_220 : decode code 220 = .ok (.ifCond .ne 14, 3) := by decide +kernel
theorem d_law_223 : decode code 223 = .ok (.aload_n 3, 1) := by decide +kernel
theorem d_law_224 : decode code 224 = .ok (.iconst 0, 1) := by decide +kernel
theorem d_law_225 : decode code 225 = .ok (.laload, 1) := by decide +kernel
theorem d_law_226 : decode code 226 = .ok (.lload 6, 2) := by decide +kernel
theorem d_law_228 : decode code 228 = .ok (.lcmp, 1) := by decide +kernel
theorem d_law_229 : decode code 229 = .ok (.ifCond .eq 5, 3) := by decide +kernel
theorem d_law_234 : decode code 234 = .ok (.goto 471, 3) := by decide +kernel
theorem d_law_237 : decode code 237 = .ok (.aload_n 1, 1) := by decide +kernel
theorem d_law_238 : decode code 238 = .ok (.aload_n 0, 1) := by decide +kernel
theorem d_law_239 : decode code 239 = .ok (.iload 4, 2) := by decide +kernel
theorem d_law_241 : decode code 241 = .ok (.iconst 1, 1) := by decide +kernel
theorem d_law_242 : decode code 242 = .ok (.iadd, 1) := by decide +kernel
theorem d_law_243 : decode code 243 = .ok (.iaload, 1) := by decide +kernel
theorem d_law_244 : decode code 244 = .ok (.i2l, 1) := by decide +kernel
theorem d_law_245 : decode code 245 = .ok (.bipush 32, 2) := by decide +kernel
theorem d_law_247 : decode code 247 = .ok (.lshl, 1) := by decide +kernel
theorem d_law_248 : decode code 248 = .ok (.aload_n 0, 1) := by decide +kernel
theorem d_law_249 : decode code 249 = .ok (.iload 4, 2) := by decide +kernel
theorem d_law_251 : decode code 251 = .ok (.iconst 2, 1) := by decide +kernel
theorem d_law_252 : decode code 252 = .ok (.iadd, 1) := by decide +kernel
theorem d_law_253 : decode code 253 = .ok (.iaload, 1) := by decide +kernel
theorem d_law_254 : decode code 254 = .ok (.i2l, 1) := by decide +kernel
theorem d_law_255 : decode code 255 = .ok (.ldc2_w 37, 3) := by decide +kernel
theorem d_law_258 : decode code 258 = .ok (.land, 1) := by decide +kernel
theorem d_law_259 : decode code 259 = .ok (.lor, 1) := by decide +kernel
theorem d_law_260 : decode code 260 = .ok (.aload_n 0, 1) := by decide +kernel
theorem d_law_261 : decode code 261 = .ok (.iload 4, 2) := by decide +kernel
theorem d_law_263 : decode code 263 = .ok (.iconst 3, 1) := by decide +kernel
theorem d_law_264 : decode code 264 = .ok (.iadd, 1) := by decide +kernel
theorem d_law_265 : decode code 265 = .ok (.iaload, 1) := by decide +kernel
theorem d_law_266 : decode code 266 = .ok (.aload_n 3, 1) := by decide +kernel
theorem d_law_267 : decode code 267 = .ok (.invokestatic 49, 3) := by decide +kernel
theorem d_law_270 : decode code 270 = .ok (.istore 5, 2) := by decide +kernel
theorem d_law_272 : decode code 272 = .ok (.aload_n 2, 1) := by decide +kernel
theorem d_law_273 : decode code 273 = .ok (.aload_n 0, 1) := by decide +kernel
theorem d_law_274 : decode code 274 = .ok (.iload 4, 2) := by decide +kernel
theorem d_law_276 : decode code 276 = .ok (.iconst 1, 1) := by decide +kernel
theorem d_law_277 : decode code 277 = .ok (.iadd, 1) := by decide +kernel
theorem d_law_278 : decode code 278 = .ok (.iaload, 1) := by decide +kernel
theorem d_law_279 : decode code 279 = .ok (.i2l, 1) := by decide +kernel
theorem d_law_280 : decode code 280 = .ok (.bipush 32, 2) := by decide +kernel
theorem d_law_282 : decode code 282 = .ok (.lshl, 1) := by decide +kernel
theorem d_law_283 : decode code 283 = .ok (.aload_n 0, 1) := by decide +kernel
theorem d_law_284 : decode code 284 = .ok (.iload 4, 2) := by decide +kernel
theorem d_law_286 : decode code 286 = .ok (.iconst 2, 1) := by decide +kernel
theorem d_law_287 : decode code 287 = .ok (.iadd, 1) := by decide +kernel
theorem d_law_288 : decode code 288 = .ok (.iaload, 1) := by decide +kernel
theorem d_law_289 : decode code 289 = .ok (.i2l, 1) := by decide +kernel
theorem d_law_290 : decode code 290 = .ok (.ldc2_w 37, 3) := by decide +kernel
theorem d_law_293 : decode code 293 = .ok (.land, 1) := by decide +kernel
theorem d_law_294 : decode code 294 = .ok (.lor, 1) := by decide +kernel
theorem d_law_295 : decode code 295 = .ok (.aload_n 0, 1) := by decide +kernel
theorem d_law_296 : decode code 296 = .ok (.iload 4, 2) := by decide +kernel
theorem d_law_298 : decode code 298 = .ok (.iconst 3, 1) := by decide +kernel
theorem d_law_299 : decode code 299 = .ok (.iadd, 1) := by decide +kernel
theorem d_law_300 : decode code 300 = .ok (.iaload, 1) := by decide +kernel
theorem d_law_301 : decode code 301 = .ok (.invokevirtual 52, 3) := by decide +kernel
theorem d_law_304 : decode code 304 = .ok (.lstore 6, 2) := by decide +kernel
theorem d_law_306 : decode code 306 = .ok (.aload_n 2, 1) := by decide +kernel
theorem d_law_307 : decode code 307 = .ok (.invokevirtual 45, 3) := by decide +kernel
theorem d_law_310 : decode code 310 = .ok (.iload 5, 2) := by decide +kernel
theorem d_law_312 : decode code 312 = .ok (.if_icmp .eq 5, 3) := by decide +kernel
theorem d_law_317 : decode code 317 = .ok (.iload 5, 2) := by decide +kernel
theorem d_law_319 : decode code 319 = .ok (.ifCond .ne 14, 3) := by decide +kernel
theorem d_law_322 : decode code 322 = .ok (.aload_n 3, 1) := by decide +kernel
theorem d_law_323 : decode code 323 = .ok (.iconst 0, 1) := by decide +kernel
theorem d_law_324 : decode code 324 = .ok (.laload, 1) := by decide +kernel
theorem d_law_325 : decode code 325 = .ok (.lload 6, 2) := by decide +kernel
theorem d_law_327 : decode code 327 = .ok (.lcmp, 1) := by decide +kernel
theorem d_law_328 : decode code 328 = .ok (.ifCond .eq 5, 3) := by decide +kernel
theorem d_law_333 : decode code 333 = .ok (.goto 372, 3) := by decide +kernel
theorem d_law_336 : decode code 336 = .ok (.aload_n 1, 1) := by decide +kernel
theorem d_law_337 : decode code 337 = .ok (.aload_n 0, 1) := by decide +kernel
theorem d_law_338 : decode code 338 = .ok (.iload 4, 2) := by decide +kernel
theorem d_law_340 : decode code 340 = .ok (.iconst 1, 1) := by decide +kernel
theorem d_law_341 : decode code 341 = .ok (.iadd, 1) := by decide +kernel
theorem d_law_342 : decode code 342 = .ok (.iaload, 1) := by decide +kernel
theorem d_law_343 : decode code 343 = .ok (.i2l, 1) := by decide +kernel
theorem d_law_344 : decode code 344 = .ok (.bipush 32, 2) := by decide +kernel
theorem d_law_346 : decode code 346 = .ok (.lshl, 1) := by decide +kernel
theorem d_law_347 : decode code 347 = .ok (.aload_n 0, 1) := by decide +kernel
theorem d_law_348 : decode code 348 = .ok (.iload 4, 2) := by decide +kernel
theorem d_law_350 : decode code 350 = .ok (.iconst 2, 1) := by decide +kernel
theorem d_law_351 : decode code 351 = .ok (.iadd, 1) := by decide +kernel
theorem d_law_352 : decode code 352 = .ok (.iaload, 1) := by decide +kernel
theorem d_law_353 : decode code 353 = .ok (.i2l, 1) := by decide +kernel
theorem d_law_354 : decode code 354 = .ok (.ldc2_w 37, 3) := by decide +kernel
theorem d_law_357 : decode code 357 = .ok (.land, 1) := by decide +kernel
theorem d_law_358 : decode code 358 = .ok (.lor, 1) := by decide +kernel
theorem d_law_359 : decode code 359 = .ok (.aload_n 0, 1) := by decide +kernel
theorem d_law_360 : decode code 360 = .ok (.iload 4, 2) := by decide +kernel
theorem d_law_362 : decode code 362 = .ok (.iconst 3, 1) := by decide +kernel
theorem d_law_363 : decode code 363 = .ok (.iadd, 1) := by decide +kernel
theorem d_law_364 : decode code 364 = .ok (.iaload, 1) := by decide +kernel
theorem d_law_365 : decode code 365 = .ok (.aload_n 0, 1) := by decide +kernel
theorem d_law_366 : decode code 366 = .ok (.iload 4, 2) := by decide +kernel
theorem d_law_368 : decode code 368 = .ok (.iconst 4, 1) := by decide +kernel
theorem d_law_369 : decode code 369 = .ok (.iadd, 1) := by decide +kernel
theorem d_law_370 : decode code 370 = .ok (.iaload, 1) := by decide +kernel
theorem d_law_371 : decode code 371 = .ok (.aload_n 3, 1) := by decide +kernel
theorem d_law_372 : decode code 372 = .ok (.invokestatic 53, 3) := by decide +kernel
theorem d_law_375 : decode code 375 = .ok (.istore 5, 2) := by decide +kernel
theorem d_law_377 : decode code 377 = .ok (.aload_n 2, 1) := by decide +kernel
theorem d_law_378 : decode code 378 = .ok (.aload_n 0, 1) := by decide +kernel
theorem d_law_379 : decode code 379 = .ok (.iload 4, 2) := by decide +kernel
theorem d_law_381 : decode code 381 = .ok (.iconst 1, 1) := by decide +kernel
theorem d_law_382 : decode code 382 = .ok (.iadd, 1) := by decide +kernel
theorem d_law_383 : decode code 383 = .ok (.iaload, 1) := by decide +kernel
theorem d_law_384 : decode code 384 = .ok (.i2l, 1) := by decide +kernel
theorem d_law_385 : decode code 385 = .ok (.bipush 32, 2) := by decide +kernel
theorem d_law_387 : decode code 387 = .ok (.lshl, 1) := by decide +kernel
theorem d_law_388 : decode code 388 = .ok (.aload_n 0, 1) := by decide +kernel
theorem d_law_389 : decode code 389 = .ok (.iload 4, 2) := by decide +kernel
theorem d_law_391 : decode code 391 = .ok (.iconst 2, 1) := by decide +kernel
theorem d_law_392 : decode code 392 = .ok (.iadd, 1) := by decide +kernel
theorem d_law_393 : decode code 393 = .ok (.iaload, 1) := by decide +kernel
theorem d_law_394 : decode code 394 = .ok (.i2l, 1) := by decide +kernel
theorem d_law_395 : decode code 395 = .ok (.ldc2_w 37, 3) := by decide +kernel
theorem d_law_398 : decode code 398 = .ok (.land, 1) := by decide +kernel
theorem d_law_399 : decode code 399 = .ok (.lor, 1) := by decide +kernel
theorem d_law_400 : decode code 400 = .ok (.aload_n 0, 1) := by decide +kernel
theorem d_law_401 : decode code 401 = .ok (.iload 4, 2) := by decide +kernel
theorem d_law_403 : decode code 403 = .ok (.iconst 3, 1) := by decide +kernel
theorem d_law_404 : decode code 404 = .ok (.iadd, 1) := by decide +kernel
theorem d_law_405 : decode code 405 = .ok (.iaload, 1) := by decide +kernel
theorem d_law_406 : decode code 406 = .ok (.aload_n 0, 1) := by decide +kernel
theorem d_law_407 : decode code 407 = .ok (.iload 4, 2) := by decide +kernel
theorem d_law_409 : decode code 409 = .ok (.iconst 4, 1) := by decide +kernel
theorem d_law_410 : decode code 410 = .ok (.iadd, 1) := by decide +kernel
theorem d_law_411 : decode code 411 = .ok (.iaload, 1) := by decide +kernel
theorem d_law_412 : decode code 412 = .ok (.invokevirtual 56, 3) := by decide +kernel
theorem d_law_415 : decode code 415 = .ok (.lstore 6, 2) := by decide +kernel
theorem d_law_417 : decode code 417 = .ok (.aload_n 2, 1) := by decide +kernel
theorem d_law_418 : decode code 418 = .ok (.invokevirtual 45, 3) := by decide +kernel
theorem d_law_421 : decode code 421 = .ok (.iload 5, 2) := by decide +kernel
theorem d_law_423 : decode code 423 = .ok (.if_icmp .eq 5, 3) := by decide +kernel
theorem d_law_428 : decode code 428 = .ok (.iload 5, 2) := by decide +kernel
theorem d_law_430 : decode code 430 = .ok (.ifCond .ne 14, 3) := by decide +kernel
theorem d_law_433 : decode code 433 = .ok (.aload_n 3, 1) := by decide +kernel
theorem d_law_434 : decode code 434 = .ok (.iconst 0, 1) := by decide +kernel
theorem d_law_435 : decode code 435 = .ok (.laload, 1) := by decide +kernel
theorem d_law_436 : decode code 436 = .ok (.lload 6, 2) := by decide +kernel
theorem d_law_438 : decode code 438 = .ok (.lcmp, 1) := by decide +kernel
theorem d_law_439 : decode code 439 = .ok (.ifCond .eq 5, 3) := by decide +kernel
theorem d_law_444 : decode code 444 = .ok (.goto 261, 3) := by decide +kernel
theorem d_law_447 : decode code 447 = .ok (.aload_n 1, 1) := by decide +kernel
theorem d_law_448 : decode code 448 = .ok (.aload_n 0, 1) := by decide +kernel
theorem d_law_449 : decode code 449 = .ok (.iload 4, 2) := by decide +kernel
theorem d_law_451 : decode code 451 = .ok (.iconst 1, 1) := by decide +kernel
theorem d_law_452 : decode code 452 = .ok (.iadd, 1) := by decide +kernel
theorem d_law_453 : decode code 453 = .ok (.iaload, 1) := by decide +kernel
theorem d_law_454 : decode code 454 = .ok (.i2l, 1) := by decide +kernel
theorem d_law_455 : decode code 455 = .ok (.bipush 32, 2) := by decide +kernel
theorem d_law_457 : decode code 457 = .ok (.lshl, 1) := by decide +kernel
theorem d_law_458 : decode code 458 = .ok (.aload_n 0, 1) := by decide +kernel
theorem d_law_459 : decode code 459 = .ok (.iload 4, 2) := by decide +kernel
theorem d_law_461 : decode code 461 = .ok (.iconst 2, 1) := by decide +kernel
theorem d_law_462 : decode code 462 = .ok (.iadd, 1) := by decide +kernel
theorem d_law_463 : decode code 463 = .ok (.iaload, 1) := by decide +kernel
theorem d_law_464 : decode code 464 = .ok (.i2l, 1) := by decide +kernel
theorem d_law_465 : decode code 465 = .ok (.ldc2_w 37, 3) := by decide +kernel
theorem d_law_468 : decode code 468 = .ok (.land, 1) := by decide +kernel
theorem d_law_469 : decode code 469 = .ok (.lor, 1) := by decide +kernel
theorem d_law_470 : decode code 470 = .ok (.aload_n 0, 1) := by decide +kernel
theorem d_law_471 : decode code 471 = .ok (.iload 4, 2) := by decide +kernel
theorem d_law_473 : decode code 473 = .ok (.iconst 3, 1) := by decide +kernel
theorem d_law_474 : decode code 474 = .ok (.iadd, 1) := by decide +kernel
theorem d_law_475 : decode code 475 = .ok (.iaload, 1) := by decide +kernel
theorem d_law_476 : decode code 476 = .ok (.i2l, 1) := by decide +kernel
theorem d_law_477 : decode code 477 = .ok (.bipush 32, 2) := by decide +kernel
theorem d_law_479 : decode code 479 = .ok (.lshl, 1) := by decide +kernel
theorem d_law_480 : decode code 480 = .ok (.aload_n 0, 1) := by decide +kernel
theorem d_law_481 : decode code 481 = .ok (.iload 4, 2) := by decide +kernel
theorem d_law_483 : decode code 483 = .ok (.iconst 4, 1) := by decide +kernel
theorem d_law_484 : decode code 484 = .ok (.iadd, 1) := by decide +kernel
theorem d_law_485 : decode code 485 = .ok (.iaload, 1) := by decide +kernel
theorem d_law_486 : decode code 486 = .ok (.i2l, 1) := by decide +kernel
theorem d_law_487 : decode code 487 = .ok (.ldc2_w 37, 3) := by decide +kernel
theorem d_law_490 : decode code 490 = .ok (.land, 1) := by decide +kernel
theorem d_law_491 : decode code 491 = .ok (.lor, 1) := by decide +kernel
theorem d_law_492 : decode code 492 = .ok (.aload_n 0, 1) := by decide +kernel
theorem d_law_493 : decode code 493 = .ok (.iload 4, 2) := by decide +kernel
theorem d_law_495 : decode code 495 = .ok (.iconst 5, 1) := by decide +kernel
theorem d_law_496 : decode code 496 = .ok (.iadd, 1) := by decide +kernel
theorem d_law_497 : decode code 497 = .ok (.iaload, 1) := by decide +kernel
theorem d_law_498 : decode code 498 = .ok (.aload_n 3, 1) := by decide +kernel
theorem d_law_499 : decode code 499 = .ok (.invokestatic 57, 3) := by decide +kernel
theorem d_law_502 : decode code 502 = .ok (.istore 5, 2) := by decide +kernel
theorem d_law_504 : decode code 504 = .ok (.aload_n 2, 1) := by decide +kernel
theorem d_law_505 : decode code 505 = .ok (.aload_n 0, 1) := by decide +kernel
theorem d_law_506 : decode code 506 = .ok (.iload 4, 2) := by decide +kernel
theorem d_law_508 : decode code 508 = .ok (.iconst 1, 1) := by decide +kernel
theorem d_law_509 : decode code 509 = .ok (.iadd, 1) := by decide +kernel
theorem d_law_510 : decode code 510 = .ok (.iaload, 1) := by decide +kernel
theorem d_law_511 : decode code 511 = .ok (.i2l, 1) := by decide +kernel
theorem d_law_512 : decode code 512 = .ok (.bipush 32, 2) := by decide +kernel
theorem d_law_514 : decode code 514 = .ok (.lshl, 1) := by decide +kernel
theorem d_law_515 : decode code 515 = .ok (.aload_n 0, 1) := by decide +kernel
theorem d_law_516 : decode code 516 = .ok (.iload 4, 2) := by decide +kernel
theorem d_law_518 : decode code 518 = .ok (.iconst 2, 1) := by decide +kernel
theorem d_law_519 : decode code 519 = .ok (.iadd, 1) := by decide +kernel
theorem d_law_520 : decode code 520 = .ok (.iaload, 1) := by decide +kernel
theorem d_law_521 : decode code 521 = .ok (.i2l, 1) := by decide +kernel
theorem d_law_522 : decode code 522 = .ok (.ldc2_w 37, 3) := by decide +kernel
theorem d_law_525 : decode code 525 = .ok (.land, 1) := by decide +kernel
theorem d_law_526 : decode code 526 = .ok (.lor, 1) := by decide +kernel
theorem d_law_527 : decode code 527 = .ok (.aload_n 0, 1) := by decide +kernel
theorem d_law_528 : decode code 528 = .ok (.iload 4, 2) := by decide +kernel
theorem d_law_530 : decode code 530 = .ok (.iconst 3, 1) := by decide +kernel
theorem d_law_531 : decode code 531 = .ok (.iadd, 1) := by decide +kernel
theorem d_law_532 : decode code 532 = .ok (.iaload, 1) := by decide +kernel
theorem d_law_533 : decode code 533 = .ok (.i2l, 1) := by decide +kernel
theorem d_law_534 : decode code 534 = .ok (.bipush 32, 2) := by decide +kernel
theorem d_law_536 : decode code 536 = .ok (.lshl, 1) := by decide +kernel
theorem d_law_537 : decode code 537 = .ok (.aload_n 0, 1) := by decide +kernel
theorem d_law_538 : decode code 538 = .ok (.iload 4, 2) := by decide +kernel
theorem d_law_540 : decode code 540 = .ok (.iconst 4, 1) := by decide +kernel
theorem d_law_541 : decode code 541 = .ok (.iadd, 1) := by decide +kernel
theorem d_law_542 : decode code 542 = .ok (.iaload, 1) := by decide +kernel
theorem d_law_543 : decode code 543 = .ok (.i2l, 1) := by decide +kernel
theorem d_law_544 : decode code 544 = .ok (.ldc2_w 37, 3) := by decide +kernel
theorem d_law_547 : decode code 547 = .ok (.land, 1) := by decide +kernel
theorem d_law_548 : decode code 548 = .ok (.lor, 1) := by decide +kernel
theorem d_law_549 : decode code 549 = .ok (.aload_n 0, 1) := by decide +kernel
theorem d_law_550 : decode code 550 = .ok (.iload 4, 2) := by decide +kernel
theorem d_law_552 : decode code 552 = .ok (.iconst 5, 1) := by decide +kernel
theorem d_law_553 : decode code 553 = .ok (.iadd, 1) := by decide +kernel
theorem d_law_554 : decode code 554 = .ok (.iaload, 1) := by decide +kernel
theorem d_law_555 : decode code 555 = .ok (.invokevirtual 60, 3) := by decide +kernel
theorem d_law_558 : decode code 558 = .ok (.istore 6, 2) := by decide +kernel
theorem d_law_560 : decode code 560 = .ok (.aload_n 2, 1) := by decide +kernel
theorem d_law_561 : decode code 561 = .ok (.invokevirtual 45, 3) := by decide +kernel
theorem d_law_564 : decode code 564 = .ok (.iload 5, 2) := by decide +kernel
theorem d_law_566 : decode code 566 = .ok (.if_icmp .eq 5, 3) := by decide +kernel
theorem d_law_571 : decode code 571 = .ok (.iload 5, 2) := by decide +kernel
theorem d_law_573 : decode code 573 = .ok (.ifCond .ne 15, 3) := by decide +kernel
theorem d_law_576 : decode code 576 = .ok (.aload_n 3, 1) := by decide +kernel
theorem d_law_577 : decode code 577 = .ok (.iconst 0, 1) := by decide +kernel
theorem d_law_578 : decode code 578 = .ok (.laload, 1) := by decide +kernel
theorem d_law_579 : decode code 579 = .ok (.iload 6, 2) := by decide +kernel
theorem d_law_581 : decode code 581 = .ok (.i2l, 1) := by decide +kernel
theorem d_law_582 : decode code 582 = .ok (.lcmp, 1) := by decide +kernel
theorem d_law_583 : decode code 583 = .ok (.ifCond .eq 5, 3) := by decide +kernel
theorem d_law_588 : decode code 588 = .ok (.goto 117, 3) := by decide +kernel
theorem d_law_591 : decode code 591 = .ok (.aload_n 1, 1) := by decide +kernel
theorem d_law_592 : decode code 592 = .ok (.aload_n 0, 1) := by decide +kernel
theorem d_law_593 : decode code 593 = .ok (.iload 4, 2) := by decide +kernel
theorem d_law_595 : decode code 595 = .ok (.iconst 1, 1) := by decide +kernel
theorem d_law_596 : decode code 596 = .ok (.iadd, 1) := by decide +kernel
theorem d_law_597 : decode code 597 = .ok (.iaload, 1) := by decide +kernel
theorem d_law_598 : decode code 598 = .ok (.i2l, 1) := by decide +kernel
theorem d_law_599 : decode code 599 = .ok (.bipush 32, 2) := by decide +kernel
theorem d_law_601 : decode code 601 = .ok (.lshl, 1) := by decide +kernel
theorem d_law_602 : decode code 602 = .ok (.aload_n 0, 1) := by decide +kernel
theorem d_law_603 : decode code 603 = .ok (.iload 4, 2) := by decide +kernel
theorem d_law_605 : decode code 605 = .ok (.iconst 2, 1) := by decide +kernel
theorem d_law_606 : decode code 606 = .ok (.iadd, 1) := by decide +kernel
theorem d_law_607 : decode code 607 = .ok (.iaload, 1) := by decide +kernel
theorem d_law_608 : decode code 608 = .ok (.i2l, 1) := by decide +kernel
theorem d_law_609 : decode code 609 = .ok (.ldc2_w 37, 3) := by decide +kernel
theorem d_law_612 : decode code 612 = .ok (.land, 1) := by decide +kernel
theorem d_law_613 : decode code 613 = .ok (.lor, 1) := by decide +kernel
theorem d_law_614 : decode code 614 = .ok (.aload_n 0, 1) := by decide +kernel
theorem d_law_615 : decode code 615 = .ok (.iload 4, 2) := by decide +kernel
theorem d_law_617 : decode code 617 = .ok (.iconst 3, 1) := by decide +kernel
theorem d_law_618 : decode code 618 = .ok (.iadd, 1) := by decide +kernel
theorem d_law_619 : decode code 619 = .ok (.iaload, 1) := by decide +kernel
theorem d_law_620 : decode code 620 = .ok (.aload_n 3, 1) := by decide +kernel
theorem d_law_621 : decode code 621 = .ok (.invokestatic 61, 3) := by decide +kernel
theorem d_law_624 : decode code 624 = .ok (.istore 5, 2) := by decide +kernel
theorem d_law_626 : decode code 626 = .ok (.aload_n 2, 1) := by decide +kernel
theorem d_law_627 : decode code 627 = .ok (.aload_n 0, 1) := by decide +kernel
theorem d_law_628 : decode code 628 = .ok (.iload 4, 2) := by decide +kernel
theorem d_law_630 : decode code 630 = .ok (.iconst 1, 1) := by decide +kernel
theorem d_law_631 : decode code 631 = .ok (.iadd, 1) := by decide +kernel
theorem d_law_632 : decode code 632 = .ok (.iaload, 1) := by decide +kernel
theorem d_law_633 : decode code 633 = .ok (.i2l, 1) := by decide +kernel
theorem d_law_634 : decode code 634 = .ok (.bipush 32, 2) := by decide +kernel
theorem d_law_636 : decode code 636 = .ok (.lshl, 1) := by decide +kernel
theorem d_law_637 : decode code 637 = .ok (.aload_n 0, 1) := by decide +kernel
theorem d_law_638 : decode code 638 = .ok (.iload 4, 2) := by decide +kernel
theorem d_law_640 : decode code 640 = .ok (.iconst 2, 1) := by decide +kernel
theorem d_law_641 : decode code 641 = .ok (.iadd, 1) := by decide +kernel
theorem d_law_642 : decode code 642 = .ok (.iaload, 1) := by decide +kernel
theorem d_law_643 : decode code 643 = .ok (.i2l, 1) := by decide +kernel
theorem d_law_644 : decode code 644 = .ok (.ldc2_w 37, 3) := by decide +kernel
theorem d_law_647 : decode code 647 = .ok (.land, 1) := by decide +kernel
theorem d_law_648 : decode code 648 = .ok (.lor, 1) := by decide +kernel
theorem d_law_649 : decode code 649 = .ok (.aload_n 0, 1) := by decide +kernel
theorem d_law_650 : decode code 650 = .ok (.iload 4, 2) := by decide +kernel
theorem d_law_652 : decode code 652 = .ok (.iconst 3, 1) := by decide +kernel
theorem d_law_653 : decode code 653 = .ok (.iadd, 1) := by decide +kernel
theorem d_law_654 : decode code 654 = .ok (.iaload, 1) := by decide +kernel
theorem d_law_655 : decode code 655 = .ok (.invokevirtual 63, 3) := by decide +kernel
theorem d_law_658 : decode code 658 = .ok (.istore 6, 2) := by decide +kernel
theorem d_law_660 : decode code 660 = .ok (.aload_n 2, 1) := by decide +kernel
theorem d_law_661 : decode code 661 = .ok (.invokevirtual 45, 3) := by decide +kernel
theorem d_law_664 : decode code 664 = .ok (.iload 5, 2) := by decide +kernel
theorem d_law_666 : decode code 666 = .ok (.if_icmp .eq 5, 3) := by decide +kernel
theorem d_law_671 : decode code 671 = .ok (.iload 5, 2) := by decide +kernel
theorem d_law_673 : decode code 673 = .ok (.ifCond .ne 15, 3) := by decide +kernel
theorem d_law_676 : decode code 676 = .ok (.aload_n 3, 1) := by decide +kernel
theorem d_law_677 : decode code 677 = .ok (.iconst 0, 1) := by decide +kernel
theorem d_law_678 : decode code 678 = .ok (.laload, 1) := by decide +kernel
theorem d_law_679 : decode code 679 = .ok (.iload 6, 2) := by decide +kernel
theorem d_law_681 : decode code 681 = .ok (.i2l, 1) := by decide +kernel
theorem d_law_682 : decode code 682 = .ok (.lcmp, 1) := by decide +kernel
theorem d_law_683 : decode code 683 = .ok (.ifCond .eq 5, 3) := by decide +kernel
theorem d_law_688 : decode code 688 = .ok (.goto 17, 3) := by decide +kernel
theorem d_law_691 : decode code 691 = .ok (.aload_n 1, 1) := by decide +kernel
theorem d_law_692 : decode code 692 = .ok (.invokevirtual 64, 3) := by decide +kernel
theorem d_law_695 : decode code 695 = .ok (.aload_n 2, 1) := by decide +kernel
theorem d_law_696 : decode code 696 = .ok (.invokevirtual 68, 3) := by decide +kernel
theorem d_law_699 : decode code 699 = .ok (.lcmp, 1) := by decide +kernel
theorem d_law_700 : decode code 700 = .ok (.ifCond .eq 5, 3) := by decide +kernel
theorem d_law_705 : decode code 705 = .ok (.iinc 4 7, 3) := by decide +kernel
theorem d_law_708 : decode code 708 = .ok (.goto (-685), 3) := by decide +kernel
theorem d_law_711 : decode code 711 = .ok (.iconst 1, 1) := by decide +kernel
theorem d_law_712 : decode code 712 = .ok (.ireturn, 1) := by decide +kernel
theorem ml_0 : (.constantLong R_Lw 37 (4294967295) : Cond) ∈ BIG := List.mem_filter.mpr ⟨by decide +kernel, by rfl⟩
theorem ml_1 : (.code y_Md_binary b_Md_binary 11 (some .long) : Cond) ∈ BIG := List.mem_filter.mpr ⟨by decide +kernel, by rfl⟩
theorem ml_2 : (.methodLink R_Lw 44 y_Md_binary : Cond) ∈ BIG := List.mem_filter.mpr ⟨by decide +kernel, by rfl⟩
theorem ml_3 : (.instanceMethod y_Md_binary : Cond) ∈ BIG := List.mem_filter.mpr ⟨by decide +kernel, by rfl⟩
theorem ml_4 : (.selects R_Md y_Md_binary y_Md_binary : Cond) ∈ BIG := List.mem_filter.mpr ⟨by decide +kernel, by rfl⟩
theorem ml_5 : (.initialized R_Md : Cond) ∈ BIG := List.mem_filter.mpr ⟨by decide +kernel, by rfl⟩
theorem ml_6 : (.code y_Md_thrown b_Md_thrown 1 (some .int) : Cond) ∈ BIG := List.mem_filter.mpr ⟨by decide +kernel, by rfl⟩
theorem ml_7 : (.methodLink R_Lw 45 y_Md_thrown : Cond) ∈ BIG := List.mem_filter.mpr ⟨by decide +kernel, by rfl⟩
theorem ml_8 : (.instanceMethod y_Md_thrown : Cond) ∈ BIG := List.mem_filter.mpr ⟨by decide +kernel, by rfl⟩
theorem ml_9 : (.selects R_Md y_Md_thrown y_Md_thrown : Cond) ∈ BIG := List.mem_filter.mpr ⟨by decide +kernel, by rfl⟩
theorem ml_10 : (.codeWith y_Lw_binary b_Lw_binary 9 (some .int) [(0, 14, 17, 13), (0, 14, 21, 15)] : Cond) ∈ BIG := List.mem_filter.mpr ⟨by decide +kernel, by rfl⟩
theorem ml_11 : (.methodLink R_Lw 39 y_Lw_binary : Cond) ∈ BIG := List.mem_filter.mpr ⟨by decide +kernel, by rfl⟩
theorem ml_12 : (.static y_Lw_binary : Cond) ∈ BIG := List.mem_filter.mpr ⟨by decide +kernel, by rfl⟩
theorem ml_13 : (.initialized R_Lw : Cond) ∈ BIG := List.mem_filter.mpr ⟨by decide +kernel, by rfl⟩
theorem ml_14 : (.code y_Md_minus b_Md_minus 5 (some .long) : Cond) ∈ BIG := List.mem_filter.mpr ⟨by decide +kernel, by rfl⟩
theorem ml_15 : (.methodLink R_Lw 52 y_Md_minus : Cond) ∈ BIG := List.mem_filter.mpr ⟨by decide +kernel, by rfl⟩
theorem ml_16 : (.instanceMethod y_Md_minus : Cond) ∈ BIG := List.mem_filter.mpr ⟨by decide +kernel, by rfl⟩
theorem ml_17 : (.selects R_Md y_Md_minus y_Md_minus : Cond) ∈ BIG := List.mem_filter.mpr ⟨by decide +kernel, by rfl⟩
theorem ml_18 : (.codeWith y_Lw_minus b_Lw_minus 6 (some .int) [(0, 10, 13, 13)] : Cond) ∈ BIG := List.mem_filter.mpr ⟨by decide +kernel, by rfl⟩
theorem ml_19 : (.methodLink R_Lw 49 y_Lw_minus : Cond) ∈ BIG := List.mem_filter.mpr ⟨by decide +kernel, by rfl⟩
theorem ml_20 : (.static y_Lw_minus : Cond) ∈ BIG := List.mem_filter.mpr ⟨by decide +kernel, by rfl⟩
theorem ml_21 : (.code y_Md_cast b_Md_cast 8 (some .long) : Cond) ∈ BIG := List.mem_filter.mpr ⟨by decide +kernel, by rfl⟩
theorem ml_22 : (.methodLink R_Lw 56 y_Md_cast : Cond) ∈ BIG := List.mem_filter.mpr ⟨by decide +kernel, by rfl⟩
theorem ml_23 : (.instanceMethod y_Md_cast : Cond) ∈ BIG := List.mem_filter.mpr ⟨by decide +kernel, by rfl⟩
theorem ml_24 : (.selects R_Md y_Md_cast y_Md_cast : Cond) ∈ BIG := List.mem_filter.mpr ⟨by decide +kernel, by rfl⟩
theorem ml_25 : (.codeWith y_Lw_cast b_Lw_cast 7 (some .int) [(0, 12, 15, 13)] : Cond) ∈ BIG := List.mem_filter.mpr ⟨by decide +kernel, by rfl⟩
theorem ml_26 : (.methodLink R_Lw 53 y_Lw_cast : Cond) ∈ BIG := List.mem_filter.mpr ⟨by decide +kernel, by rfl⟩
theorem ml_27 : (.static y_Lw_cast : Cond) ∈ BIG := List.mem_filter.mpr ⟨by decide +kernel, by rfl⟩
theorem ml_28 : (.code y_Md_compare b_Md_compare 13 (some .int) : Cond) ∈ BIG := List.mem_filter.mpr ⟨by decide +kernel, by rfl⟩
theorem ml_29 : (.methodLink R_Lw 60 y_Md_compare : Cond) ∈ BIG := List.mem_filter.mpr ⟨by decide +kernel, by rfl⟩
theorem ml_30 : (.instanceMethod y_Md_compare : Cond) ∈ BIG := List.mem_filter.mpr ⟨by decide +kernel, by rfl⟩
theorem ml_31 : (.selects R_Md y_Md_compare y_Md_compare : Cond) ∈ BIG := List.mem_filter.mpr ⟨by decide +kernel, by rfl⟩
theorem ml_32 : (.codeWith y_Lw_compare b_Lw_compare 8 (some .int) [(0, 13, 16, 13)] : Cond) ∈ BIG := List.mem_filter.mpr ⟨by decide +kernel, by rfl⟩
theorem ml_33 : (.methodLink R_Lw 57 y_Lw_compare : Cond) ∈ BIG := List.mem_filter.mpr ⟨by decide +kernel, by rfl⟩
theorem ml_34 : (.static y_Lw_compare : Cond) ∈ BIG := List.mem_filter.mpr ⟨by decide +kernel, by rfl⟩
theorem ml_35 : (.codeWith y_Lw_text b_Lw_text 6 (some .int) [(0, 11, 14, 13)] : Cond) ∈ BIG := List.mem_filter.mpr ⟨by decide +kernel, by rfl⟩
theorem ml_36 : (.methodLink R_Lw 61 y_Lw_text : Cond) ∈ BIG := List.mem_filter.mpr ⟨by decide +kernel, by rfl⟩
theorem ml_37 : (.static y_Lw_text : Cond) ∈ BIG := List.mem_filter.mpr ⟨by decide +kernel, by rfl⟩
theorem ml_38 : (.code y_Md_text b_Md_text 10 (some .int) : Cond) ∈ BIG := List.mem_filter.mpr ⟨by decide +kernel, by rfl⟩
theorem ml_39 : (.methodLink R_Lw 63 y_Md_text : Cond) ∈ BIG := List.mem_filter.mpr ⟨by decide +kernel, by rfl⟩
theorem ml_40 : (.instanceMethod y_Md_text : Cond) ∈ BIG := List.mem_filter.mpr ⟨by decide +kernel, by rfl⟩
theorem ml_41 : (.selects R_Md y_Md_text y_Md_text : Cond) ∈ BIG := List.mem_filter.mpr ⟨by decide +kernel, by rfl⟩
theorem ml_42 : (.code y_PB_take b_PB_take 1 (some .long) : Cond) ∈ BIG := List.mem_filter.mpr ⟨by decide +kernel, by rfl⟩
theorem ml_43 : (.methodLink R_Lw 64 y_PB_take : Cond) ∈ BIG := List.mem_filter.mpr ⟨by decide +kernel, by rfl⟩
theorem ml_44 : (.instanceMethod y_PB_take : Cond) ∈ BIG := List.mem_filter.mpr ⟨by decide +kernel, by rfl⟩
theorem ml_45 : (.selects R_PB y_PB_take y_PB_take : Cond) ∈ BIG := List.mem_filter.mpr ⟨by decide +kernel, by rfl⟩
theorem ml_46 : (.initialized R_PB : Cond) ∈ BIG := List.mem_filter.mpr ⟨by decide +kernel, by rfl⟩
theorem ml_47 : (.code y_Md_take b_Md_take 4 (some .long) : Cond) ∈ BIG := List.mem_filter.mpr ⟨by decide +kernel, by rfl⟩
theorem ml_48 : (.methodLink R_Lw 68 y_Md_take : Cond) ∈ BIG := List.mem_filter.mpr ⟨by decide +kernel, by rfl⟩
theorem ml_49 : (.instanceMethod y_Md_take : Cond) ∈ BIG := List.mem_filter.mpr ⟨by decide +kernel, by rfl⟩
theorem ml_50 : (.selects R_Md y_Md_take y_Md_take : Cond) ∈ BIG := List.mem_filter.mpr ⟨by decide +kernel, by rfl⟩
set_option maxHeartbeats 8000000 in
set_option maxRecDepth 100000 in
theorem law_loop {p : Program} {e : Env} {s : State} {m : MethodId} {below : List Frame} {meth : Method} {c : Code} {l : Launch} (hst : l.stackTraces = false) {b L : Nat} {xs : Nat → Int32} (hL : L ≤ 3584) (hx : p.tables.exec = Jvm.exec) (hb : c.code = code) (hr : meth.sig.returnType = ret) (hml : c.maxLocals = 8) (hown : s.vm.findClass R_Lw = some m.cls) (hts : ∀ w ∈ Cond.initialized R_PB :: BIG, w.before #[Value.ref b] s = true) {A : Nat → Prop} (hA : A = fun q => s.heap.size ≤ q) (hX : va_X b L xs s s.heap) (hbl : b < s.heap.size) (hlocks : meth.locks = false)
    {oF oD : Nat} {kA vA : Nat → Nat} (hE : eE oF oD kA vA A s s.heap) {D : va_G} {cI cL cC : ClassId} (hK : va_K D cls (tysV cI cL cC) s) {adC adM : Nat → Nat} {ao : Nat} :
    ∀ (t i : Nat) (ls : Array Slot) (H : Heap) (fo : Nat → Int64) (len : Int32) (tk : Int32) (row : Nat → Int32) (dig : Int64) (pw : Int32) (used : Int32) (lost : Int32) (lim : Nat → Int64) (laid : Int32) (gone : Int32) (thr : Int32) (m1 : Int64) (m2 : Int64) (e1 : Int32) (e2 : Int32) (mi1 : Int32) (mi2 : Int32) (na1 : Int32) (na2 : Int32) (fa1 : Int32) (fa2 : Int32) (lets : Nat → Int32) (rlen : Int32) (rlaid : Int32) (rgone : Int32) (rthr : Int32) (were : Int32) (none_ : Int32) (beyo : Int32) (aN : Int32) (bN : Int32) (fN : Int32) (lN_ : Int32) (rN : Int32) (pN : Int32) (twos : Int32) (at_ : Int32) (rdig : Int32) (rpow : Int32) (good : Int32) (txt : Nat → Int32) (wri : Nat → Int32) (ra : Nat → Int32) (rb : Nat → Int32) (rfive : Nat → Int32) (rleft : Nat → Int32) (rright : Nat → Int32) (rpart : Nat → Int32), L < 7 * (i + t) + 7 → 7 * i ≤ 3584 → lv_has ls 8 [(4, .int (nI (7 * i))), (0, .ref b), (1, .ref (adC 0)), (2, .ref (adM 0)), (3, .ref ao)] → sim len tk row laid gone lets → va_P D cls (gC cI cL cC adC ((ao, .inl (cL, 1, .inr (.inl fo))) :: gM cI cL cC adM [] laid gone thr m1 m2 e1 e2 mi1 mi2 na1 na2 fa1 fa2 lets rlen rlaid rgone rthr were none_ beyo aN bN fN lN_ rN pN twos at_ rdig rpow good txt wri ra rb rfive rleft rright rpart) len tk row dig pw used lost lim) H → va_D A (gC cI cL cC adC ((ao, .inl (cL, 1, .inr (.inl fo))) :: gM cI cL cC adM [] laid gone thr m1 m2 e1 e2 mi1 mi2 na1 na2 fa1 fa2 lets rlen rlaid rgone rthr were none_ beyo aN bN fN lN_ rN pN twos at_ rdig rpow good txt wri ra rb rfive rleft rright rpart) len tk row dig pw used lost lim) → va_S A s.heap H [] → W p l e room_1 s m #[Value.ref b] below meth c H [] (18 + i) (4521 + 6 * i) (lw_Z below #[Value.ref b] s) (F0 m 23 ls []) := by
  have hT : ∀ w ∈ BIG, w.before #[Value.ref b] s = true := fun w h => hts w (List.mem_cons_of_mem _ h)
  have hNB : nB s := hE.1.1
  have hbA : ¬ A b := by rw [hA]; exact Nat.not_le.mpr hbl
  have hAl : ∀ q, A q → s.heap.size ≤ q := fun q h => by rw [hA] at h; exact h
  intro t
  induction t with
  | zero =>
    intro i ls H fo len tk row dig pw used lost lim laid gone thr m1 m2 e1 e2 mi1 mi2 na1 na2 fa1 fa2 lets rlen rlaid rgone rthr were none_ beyo aN bN fN lN_ rN pN twos at_ rdig rpow good txt wri ra rb rfive rleft rright rpart hLt hi7 hl hsim hP hD hS
    refine lv_iload hx hb d_law_23 (lv_at hl 0 rfl) ?_
    refine lv_aload_n hx hb d_law_25 rfl (lv_at hl 1 rfl) ?_
    refine va_slen hx hb hX hbl hbA hS d_law_26 ?_
    refine lv_bipush hx hb d_law_27 (show (Int8.ofInt 7).toInt32 = (7 : Int32) by decide) ?_
    refine lv_isub hx hb d_law_29 ?_
    refine lv_icmp_gt (tgt := 711) hx hb d_law_30 rfl (fun _ => ?_) (fun hc => ?_)
    · refine lv_iconst hx hb d_law_711 ic_1 ?_
      exact W.widen (show 18 + i ≤ 1048 by omega) (show 4521 + 6 * i ≤ 12749 by omega) (lw_ret hx hb hr hlocks d_law_712)
    have h7 : 7 * i + 7 ≤ L := by
      have e7 : Int32.ofNat L - 7 = iZ ((L : Int) - 7) := by
        rw [show Int32.ofNat L = iZ (L : Int) from (iZ_nI L).symm, show (7 : Int32) = iZ 7 from rfl, iZ_sub]
      rw [e7, ← iZ_nI] at hc
      have hlt : iZ ((L : Int) - 7) < iZ ((7 * i : Nat) : Int) ↔ ((L : Int) - 7) < ((7 * i : Nat) : Int) := iZ_lt (by omega) (by omega) (by omega) (by omega)
      have h9 : ¬ ((L : Int) - 7) < ((7 * i : Nat) : Int) := fun z => hc (hlt.mpr z)
      omega
    exfalso
    omega
  | succ t ih =>
    intro i ls H fo len tk row dig pw used lost lim laid gone thr m1 m2 e1 e2 mi1 mi2 na1 na2 fa1 fa2 lets rlen rlaid rgone rthr were none_ beyo aN bN fN lN_ rN pN twos at_ rdig rpow good txt wri ra rb rfive rleft rright rpart hLt hi7 hl hsim hP hD hS
    refine lv_iload hx hb d_law_23 (lv_at hl 0 rfl) ?_
    refine lv_aload_n hx hb d_law_25 rfl (lv_at hl 1 rfl) ?_
    refine va_slen hx hb hX hbl hbA hS d_law_26 ?_
    refine lv_bipush hx hb d_law_27 (show (Int8.ofInt 7).toInt32 = (7 : Int32) by decide) ?_
    refine lv_isub hx hb d_law_29 ?_
    refine lv_icmp_gt (tgt := 711) hx hb d_law_30 rfl (fun _ => ?_) (fun hc => ?_)
    · refine lv_iconst hx hb d_law_711 ic_1 ?_
      exact W.widen (show 18 + i ≤ 1048 by omega) (show 4521 + 6 * i ≤ 12749 by omega) (lw_ret hx hb hr hlocks d_law_712)
    have h7 : 7 * i + 7 ≤ L := by
      have e7 : Int32.ofNat L - 7 = iZ ((L : Int) - 7) := by
        rw [show Int32.ofNat L = iZ (L : Int) from (iZ_nI L).symm, show (7 : Int32) = iZ 7 from rfl, iZ_sub]
      rw [e7, ← iZ_nI] at hc
      have hlt : iZ ((L : Int) - 7) < iZ ((7 * i : Nat) : Int) ↔ ((L : Int) - 7) < ((7 * i : Nat) : Int) := iZ_lt (by omega) (by omega) (by omega) (by omega)
      have h9 : ¬ ((L : Int) - 7) < ((7 * i : Nat) : Int) := fun z => hc (hlt.mpr z)
      omega
    have fin : ∀ (ls : Array Slot) (H : Heap) (locs : List Loc) (fo : Nat → Int64) (len : Int32) (tk : Int32) (row : Nat → Int32) (dig : Int64) (pw : Int32) (used : Int32) (lost : Int32) (lim : Nat → Int64) (laid : Int32) (gone : Int32) (thr : Int32) (m1 : Int64) (m2 : Int64) (e1 : Int32) (e2 : Int32) (mi1 : Int32) (mi2 : Int32) (na1 : Int32) (na2 : Int32) (fa1 : Int32) (fa2 : Int32) (lets : Nat → Int32) (rlen : Int32) (rlaid : Int32) (rgone : Int32) (rthr : Int32) (were : Int32) (none_ : Int32) (beyo : Int32) (aN : Int32) (bN : Int32) (fN : Int32) (lN_ : Int32) (rN : Int32) (pN : Int32) (twos : Int32) (at_ : Int32) (rdig : Int32) (rpow : Int32) (good : Int32) (txt : Nat → Int32) (wri : Nat → Int32) (ra : Nat → Int32) (rb : Nat → Int32) (rfive : Nat → Int32) (rleft : Nat → Int32) (rright : Nat → Int32) (rpart : Nat → Int32), lv_has ls 8 [(4, .int (nI (7 * i))), (0, .ref b), (1, .ref (adC 0)), (2, .ref (adM 0)), (3, .ref ao)] → sim len tk row laid gone lets → va_P D cls (gC cI cL cC adC ((ao, .inl (cL, 1, .inr (.inl fo))) :: gM cI cL cC adM [] laid gone thr m1 m2 e1 e2 mi1 mi2 na1 na2 fa1 fa2 lets rlen rlaid rgone rthr were none_ beyo aN bN fN lN_ rN pN twos at_ rdig rpow good txt wri ra rb rfive rleft rright rpart) len tk row dig pw used lost lim) H → va_D A (gC cI cL cC adC ((ao, .inl (cL, 1, .inr (.inl fo))) :: gM cI cL cC adM [] laid gone thr m1 m2 e1 e2 mi1 mi2 na1 na2 fa1 fa2 lets rlen rlaid rgone rthr were none_ beyo aN bN fN lN_ rN pN twos at_ rdig rpow good txt wri ra rb rfive rleft rright rpart) len tk row dig pw used lost lim) → va_S A s.heap H locs → W p l e room_1 s m #[Value.ref b] below meth c H locs (18 + i + 1) (4521 + 6 * i + 6) (lw_Z below #[Value.ref b] s) (F0 m 705 ls []) := by
      intro ls H locs fo len tk row dig pw used lost lim laid gone thr m1 m2 e1 e2 mi1 mi2 na1 na2 fa1 fa2 lets rlen rlaid rgone rthr were none_ beyo aN bN fN lN_ rN pN twos at_ rdig rpow good txt wri ra rb rfive rleft rright rpart hl hsim hP hD hS
      refine va_forget (fun q h => hAl _ (hS.2.2 q h)) ?_
      have hS : va_S A s.heap H [] := ⟨hS.1, hS.2.1, fun _ h => nomatch h⟩
      refine lv_iinc (k := 0) hx hb d_law_705 hl rfl (show nI (7 * i) + Int32.ofInt 7 = nI (7 * (i + 1)) from nI_add (7 * i) 7) (by decide) rfl (fun ls hl => ?_)
      refine lv_goto (tgt := 23) hx hb d_law_708 rfl ?_
      exact W.widen (show 18 + i + 1 ≤ 18 + (i + 1) by omega) (show 4521 + 6 * i + 6 ≤ 4521 + 6 * (i + 1) by omega) (ih (i + 1) ls H fo len tk row dig pw used lost lim laid gone thr m1 m2 e1 e2 mi1 mi2 na1 na2 fa1 fa2 lets rlen rlaid rgone rthr were none_ beyo aN bN fN lN_ rN pN twos at_ rdig rpow good txt wri ra rb rfive rleft rright rpart (by omega) (by omega) hl hsim hP hD hS)
    refine lv_aload_n hx hb d_law_33 rfl (lv_at hl 1 rfl) ?_
    refine lv_iload hx hb d_law_34 (lv_at hl 0 rfl) ?_
    refine q_sld hx hb hX hbl hbA hS (j := 7 * i) rfl (by omega) hL d_law_36 ?_
    refine lv_bipush hx hb d_law_37 bp_7 ?_
    refine lv_iand hx hb d_law_39 ?_
    by_cases hc0 : ((xs (7 * i)) &&& (7 : Int32)) = (0 : Int32)
    · refine lv_tableIn (off := 40) (tgt := 80) hx hb d_law_40 (by rw [hc0]; decide) (by rw [hc0]; decide) (by rw [hc0]; rfl) rfl ?_
      refine lv_aload_n hx hb d_law_80 rfl (lv_at hl 2 rfl) ?_
      refine lv_aload_n hx hb d_law_81 rfl (lv_at hl 1 rfl) ?_
      refine lv_iload hx hb d_law_82 (lv_at hl 0 rfl) ?_
      refine lv_iconst hx hb d_law_84 ic_1 ?_
      refine lv_iadd hx hb d_law_85 ?_
      refine q_sld hx hb hX hbl hbA hS (j := 7 * i + 1) (nI_add (7 * i) 1) (by omega) hL d_law_86 ?_
      refine lv_aload_n hx hb d_law_87 rfl (lv_at hl 1 rfl) ?_
      refine lv_iload hx hb d_law_88 (lv_at hl 0 rfl) ?_
      refine lv_iconst hx hb d_law_90 ic_2 ?_
      refine lv_iadd hx hb d_law_91 ?_
      refine q_sld hx hb hX hbl hbA hS (j := 7 * i + 2) (nI_add (7 * i) 2) (by omega) hL d_law_92 ?_
      refine lv_i2l hx hb d_law_93 rfl ?_
      refine lv_bipush hx hb d_law_94 bp_32 ?_
      refine lv_lshl hx hb d_law_96 rfl ?_
      refine lv_aload_n hx hb d_law_97 rfl (lv_at hl 1 rfl) ?_
      refine lv_iload hx hb d_law_98 (lv_at hl 0 rfl) ?_
      refine lv_iconst hx hb d_law_100 ic_3 ?_
      refine lv_iadd hx hb d_law_101 ?_
      refine q_sld hx hb hX hbl hbA hS (j := 7 * i + 3) (nI_add (7 * i) 3) (by omega) hL d_law_102 ?_
      refine lv_i2l hx hb d_law_103 rfl ?_
      refine lv_ldc2 hx hb hown (hT _ ml_0) d_law_104 ?_
      refine lv_land hx hb d_law_107 ?_
      refine lv_lor hx hb d_law_108 ?_
      refine lv_aload_n hx hb d_law_109 rfl (lv_at hl 1 rfl) ?_
      refine lv_iload hx hb d_law_110 (lv_at hl 0 rfl) ?_
      refine lv_iconst hx hb d_law_112 ic_4 ?_
      refine lv_iadd hx hb d_law_113 ?_
      refine q_sld hx hb hX hbl hbA hS (j := 7 * i + 4) (nI_add (7 * i) 4) (by omega) hL d_law_114 ?_
      refine lv_i2l hx hb d_law_115 rfl ?_
      refine lv_bipush hx hb d_law_116 bp_32 ?_
      refine lv_lshl hx hb d_law_118 rfl ?_
      refine lv_aload_n hx hb d_law_119 rfl (lv_at hl 1 rfl) ?_
      refine lv_iload hx hb d_law_120 (lv_at hl 0 rfl) ?_
      refine lv_iconst hx hb d_law_122 ic_5 ?_
      refine lv_iadd hx hb d_law_123 ?_
      refine q_sld hx hb hX hbl hbA hS (j := 7 * i + 5) (nI_add (7 * i) 5) (by omega) hL d_law_124 ?_
      refine lv_i2l hx hb d_law_125 rfl ?_
      refine lv_ldc2 hx hb hown (hT _ ml_0) d_law_126 ?_
      refine lv_land hx hb d_law_129 ?_
      refine lv_lor hx hb d_law_130 ?_
      refine lv_aload_n hx hb d_law_131 rfl (lv_at hl 1 rfl) ?_
      refine lv_iload hx hb d_law_132 (lv_at hl 0 rfl) ?_
      refine lv_bipush hx hb d_law_134 bp_6 ?_
      refine lv_iadd hx hb d_law_136 ?_
      refine q_sld hx hb hX hbl hbA hS (j := 7 * i + 6) (nI_add (7 * i) 6) (by omega) hL d_law_137 ?_
      refine lv_aload_n hx hb d_law_138 rfl (lv_at hl 4 rfl) ?_
      obtain ⟨r, v, thr', ⟨m1', m2', e1', e2', mi1', mi2', na1', na2', fa1', fa2'⟩, f1, f2, hag⟩ := t_binary (xs (7 * i + 1)) ((((xs (7 * i + 2)).toInt64) <<< (((32 : Int32)).toInt64 &&& 63)) ||| (((xs (7 * i + 3)).toInt64) &&& (4294967295 : Int64))) ((((xs (7 * i + 4)).toInt64) <<< (((32 : Int32)).toInt64 &&& 63)) ||| (((xs (7 * i + 5)).toInt64) &&& (4294967295 : Int64))) (xs (7 * i + 6)) (n := 10001) (by decide) thr m1 m2 e1 e2 mi1 mi2 na1 na2 fa1 fa2
      have cont : ∀ (kr : Int32) (fo' : Nat → Int64) (H : Heap) (locs : List Loc), kr = thr' → (kr = 0 → fo' 0 = v) → va_P D cls (gC cI cL cC adC ((ao, .inl (cL, 1, .inr (.inl fo'))) :: gM cI cL cC adM [] laid gone thr m1 m2 e1 e2 mi1 mi2 na1 na2 fa1 fa2 lets rlen rlaid rgone rthr were none_ beyo aN bN fN lN_ rN pN twos at_ rdig rpow good txt wri ra rb rfive rleft rright rpart) len tk row dig pw used lost lim) H → va_D A (gC cI cL cC adC ((ao, .inl (cL, 1, .inr (.inl fo'))) :: gM cI cL cC adM [] laid gone thr m1 m2 e1 e2 mi1 mi2 na1 na2 fa1 fa2 lets rlen rlaid rgone rthr were none_ beyo aN bN fN lN_ rN pN twos at_ rdig rpow good txt wri ra rb rfive rleft rright rpart) len tk row dig pw used lost lim) → va_S A s.heap H locs → W p l e room_1 s m #[Value.ref b] below meth c H locs (18 + i + 1) (4521 + 6 * i + 6) (lw_Z below #[Value.ref b] s) (F0 m 142 ls [.int kr]) := by
        intro kr fo' H locs hkr hfo hP hD hS
        refine lv_istore hx hb d_law_142 hl (by decide) rfl (fun ls hl => ?_)
        have hl : lv_has ls 8 [(5, .int kr), (4, .int (nI (7 * i))), (0, .ref b), (1, .ref (adC 0)), (2, .ref (adM 0)), (3, .ref ao)] := hl
        refine lv_aload_n hx hb d_law_144 rfl (lv_at hl 4 rfl) ?_
        refine lv_aload_n hx hb d_law_145 rfl (lv_at hl 2 rfl) ?_
        refine lv_iload hx hb d_law_146 (lv_at hl 1 rfl) ?_
        refine lv_iconst hx hb d_law_148 ic_1 ?_
        refine lv_iadd hx hb d_law_149 ?_
        refine q_sld hx hb hX hbl hbA hS (j := 7 * i + 1) (nI_add (7 * i) 1) (by omega) hL d_law_150 ?_
        refine lv_aload_n hx hb d_law_151 rfl (lv_at hl 2 rfl) ?_
        refine lv_iload hx hb d_law_152 (lv_at hl 1 rfl) ?_
        refine lv_iconst hx hb d_law_154 ic_2 ?_
        refine lv_iadd hx hb d_law_155 ?_
        refine q_sld hx hb hX hbl hbA hS (j := 7 * i + 2) (nI_add (7 * i) 2) (by omega) hL d_law_156 ?_
        refine lv_i2l hx hb d_law_157 rfl ?_
        refine lv_bipush hx hb d_law_158 bp_32 ?_
        refine lv_lshl hx hb d_law_160 rfl ?_
        refine lv_aload_n hx hb d_law_161 rfl (lv_at hl 2 rfl) ?_
        refine lv_iload hx hb d_law_162 (lv_at hl 1 rfl) ?_
        refine lv_iconst hx hb d_law_164 ic_3 ?_
        refine lv_iadd hx hb d_law_165 ?_
        refine q_sld hx hb hX hbl hbA hS (j := 7 * i + 3) (nI_add (7 * i) 3) (by omega) hL d_law_166 ?_
        refine lv_i2l hx hb d_law_167 rfl ?_
        refine lv_ldc2 hx hb hown (hT _ ml_0) d_law_168 ?_
        refine lv_land hx hb d_law_171 ?_
        refine lv_lor hx hb d_law_172 ?_
        refine lv_aload_n hx hb d_law_173 rfl (lv_at hl 2 rfl) ?_
        refine lv_iload hx hb d_law_174 (lv_at hl 1 rfl) ?_
        refine lv_iconst hx hb d_law_176 ic_4 ?_
        refine lv_iadd hx hb d_law_177 ?_
        refine q_sld hx hb hX hbl hbA hS (j := 7 * i + 4) (nI_add (7 * i) 4) (by omega) hL d_law_178 ?_
        refine lv_i2l hx hb d_law_179 rfl ?_
        refine lv_bipush hx hb d_law_180 bp_32 ?_
        refine lv_lshl hx hb d_law_182 rfl ?_
        refine lv_aload_n hx hb d_law_183 rfl (lv_at hl 2 rfl) ?_
        refine lv_iload hx hb d_law_184 (lv_at hl 1 rfl) ?_
        refine lv_iconst hx hb d_law_186 ic_5 ?_
        refine lv_iadd hx hb d_law_187 ?_
        refine q_sld hx hb hX hbl hbA hS (j := 7 * i + 5) (nI_add (7 * i) 5) (by omega) hL d_law_188 ?_
        refine lv_i2l hx hb d_law_189 rfl ?_
        refine lv_ldc2 hx hb hown (hT _ ml_0) d_law_190 ?_
        refine lv_land hx hb d_law_193 ?_
        refine lv_lor hx hb d_law_194 ?_
        refine lv_aload_n hx hb d_law_195 rfl (lv_at hl 2 rfl) ?_
        refine lv_iload hx hb d_law_196 (lv_at hl 1 rfl) ?_
        refine lv_bipush hx hb d_law_198 bp_6 ?_
        refine lv_iadd hx hb d_law_200 ?_
        refine q_sld hx hb hX hbl hbA hS (j := 7 * i + 6) (nI_add (7 * i) 6) (by omega) hL d_law_201 ?_
        have hP := to_M hP
        have hD := to_Md hD
        have hP : va_P D cls (gM cI cL cC adM (gC cI cL cC adC [(ao, .inl (cL, 1, .inr (.inl fo')))] len tk row dig pw used lost lim) laid gone thr m1 m2 e1 e2 mi1 mi2 na1 na2 fa1 fa2 lets rlen rlaid rgone rthr were none_ beyo aN bN fN lN_ rN pN twos at_ rdig rpow good txt wri ra rb rfive rleft rright rpart) H := hP
        have hD : va_D A (gM cI cL cC adM (gC cI cL cC adC [(ao, .inl (cL, 1, .inr (.inl fo')))] len tk row dig pw used lost lim) laid gone thr m1 m2 e1 e2 mi1 mi2 na1 na2 fa1 fa2 lets rlen rlaid rgone rthr were none_ beyo aN bN fN lN_ rN pN twos at_ rdig rpow good txt wri ra rb rfive rleft rright rpart) := hD
        refine q_GV (D := D) (A := A) (C := R_Md) (b := adM 0) (As := [.int (xs (7 * i + 1)), .long ((((xs (7 * i + 2)).toInt64) <<< (((32 : Int32)).toInt64 &&& 63)) ||| (((xs (7 * i + 3)).toInt64) &&& (4294967295 : Int64))), .long ((((xs (7 * i + 4)).toInt64) <<< (((32 : Int32)).toInt64 &&& 63)) ||| (((xs (7 * i + 5)).toInt64) &&& (4294967295 : Int64))), .int (xs (7 * i + 6))]) (rest := []) (n := 4) hx hb hml hown hts (c_Md_binary l D A cI cL cC adM (gC cI cL cC adC [(ao, .inl (cL, 1, .inr (.inl fo')))] len tk row dig pw used lost lim) laid gone thr m1 m2 e1 e2 mi1 mi2 na1 na2 fa1 fa2 lets rlen rlaid rgone rthr were none_ beyo aN bN fN lN_ rN pN twos at_ rdig rpow good txt wri ra rb rfive rleft rright rpart 10001 (xs (7 * i + 1)) ((((xs (7 * i + 2)).toInt64) <<< (((32 : Int32)).toInt64 &&& 63)) ||| (((xs (7 * i + 3)).toInt64) &&& (4294967295 : Int64))) ((((xs (7 * i + 4)).toInt64) <<< (((32 : Int32)).toInt64 &&& 63)) ||| (((xs (7 * i + 5)).toInt64) &&& (4294967295 : Int64))) (xs (7 * i + 6)) (v, thr', m1', m2', e1', e2', mi1', mi2', na1', na2', fa1', fa2') f2) rfl rfl ml_1 ml_2 ml_3 ml_4 ml_5 (by decide +kernel) ⟨Nat.le_of_ble_eq_true rfl, Nat.le_of_ble_eq_true rfl⟩ (va_recv hK hP (ci := 4) rfl (q0 := 0) rfl) hNB hK hP hD hS rfl hl.1 rfl (Nat.le_of_ble_eq_true rfl) d_law_202 ⟨(show 18 + i + 1 ≤ 1048 by omega), (show 4521 + 6 * i + 6 ≤ 12749 by omega)⟩ (fun H locs hP hD hS => ?_)
        have hP : va_P D cls (gM cI cL cC adM (gC cI cL cC adC [(ao, .inl (cL, 1, .inr (.inl fo')))] len tk row dig pw used lost lim) laid gone thr' m1' m2' e1' e2' mi1' mi2' na1' na2' fa1' fa2' lets rlen rlaid rgone rthr were none_ beyo aN bN fN lN_ rN pN twos at_ rdig rpow good txt wri ra rb rfive rleft rright rpart) H := hP
        have hD : va_D A (gM cI cL cC adM (gC cI cL cC adC [(ao, .inl (cL, 1, .inr (.inl fo')))] len tk row dig pw used lost lim) laid gone thr' m1' m2' e1' e2' mi1' mi2' na1' na2' fa1' fa2' lets rlen rlaid rgone rthr were none_ beyo aN bN fN lN_ rN pN twos at_ rdig rpow good txt wri ra rb rfive rleft rright rpart) := hD
        refine lv_lstore hx hb d_law_205 hl (by decide) rfl (fun ls hl => ?_)
        have hl : lv_has ls 8 [(6, .long v), (5, .int kr), (4, .int (nI (7 * i))), (0, .ref b), (1, .ref (adC 0)), (2, .ref (adM 0)), (3, .ref ao)] := hl
        refine lv_aload_n hx hb d_law_207 rfl (lv_at hl 5 rfl) ?_
        refine q_GV (D := D) (A := A) (C := R_Md) (b := adM 0) (As := []) (rest := []) (n := 0) hx hb hml hown hts (c_Md_thrown l D A cI cL cC adM (gC cI cL cC adC [(ao, .inl (cL, 1, .inr (.inl fo')))] len tk row dig pw used lost lim) laid gone thr' m1' m2' e1' e2' mi1' mi2' na1' na2' fa1' fa2' lets rlen rlaid rgone rthr were none_ beyo aN bN fN lN_ rN pN twos at_ rdig rpow good txt wri ra rb rfive rleft rright rpart thr' rfl) rfl rfl ml_6 ml_7 ml_8 ml_9 ml_5 (by decide +kernel) ⟨Nat.le_of_ble_eq_true rfl, Nat.le_of_ble_eq_true rfl⟩ (va_recv hK hP (ci := 4) rfl (q0 := 0) rfl) hNB hK hP hD hS rfl hl.1 rfl (Nat.le_of_ble_eq_true rfl) d_law_208 ⟨(show 18 + i + 1 ≤ 1048 by omega), (show 4521 + 6 * i + 6 ≤ 12749 by omega)⟩ (fun H locs hP hD hS => ?_)
        have hP : va_P D cls (gM cI cL cC adM (gC cI cL cC adC [(ao, .inl (cL, 1, .inr (.inl fo')))] len tk row dig pw used lost lim) laid gone thr' m1' m2' e1' e2' mi1' mi2' na1' na2' fa1' fa2' lets rlen rlaid rgone rthr were none_ beyo aN bN fN lN_ rN pN twos at_ rdig rpow good txt wri ra rb rfive rleft rright rpart) H := hP
        have hD : va_D A (gM cI cL cC adM (gC cI cL cC adC [(ao, .inl (cL, 1, .inr (.inl fo')))] len tk row dig pw used lost lim) laid gone thr' m1' m2' e1' e2' mi1' mi2' na1' na2' fa1' fa2' lets rlen rlaid rgone rthr were none_ beyo aN bN fN lN_ rN pN twos at_ rdig rpow good txt wri ra rb rfive rleft rright rpart) := hD
        have hP := to_C hP
        have hD := to_Cd hD
        have hP : va_P D cls (gC cI cL cC adC ((ao, .inl (cL, 1, .inr (.inl fo'))) :: gM cI cL cC adM [] laid gone thr' m1' m2' e1' e2' mi1' mi2' na1' na2' fa1' fa2' lets rlen rlaid rgone rthr were none_ beyo aN bN fN lN_ rN pN twos at_ rdig rpow good txt wri ra rb rfive rleft rright rpart) len tk row dig pw used lost lim) H := hP
        have hD : va_D A (gC cI cL cC adC ((ao, .inl (cL, 1, .inr (.inl fo'))) :: gM cI cL cC adM [] laid gone thr' m1' m2' e1' e2' mi1' mi2' na1' na2' fa1' fa2' lets rlen rlaid rgone rthr were none_ beyo aN bN fN lN_ rN pN twos at_ rdig rpow good txt wri ra rb rfive rleft rright rpart) len tk row dig pw used lost lim) := hD
        refine lv_iload hx hb d_law_211 (lv_at hl 1 rfl) ?_
        refine lv_icmp_eq (tgt := 218) hx hb d_law_213 rfl (fun _ => ?_) (fun hc => absurd hkr.symm hc)
        refine lv_iload hx hb d_law_218 (lv_at hl 1 rfl) ?_
        refine lv_if_ne (tgt := 234) hx hb d_law_220 rfl (fun _ => ?_) (fun hc => ?_)
        · refine lv_goto (tgt := 705) hx hb d_law_234 rfl ?_
          exact fin ls _ _ fo' len tk row dig pw used lost lim laid gone thr' m1' m2' e1' e2' mi1' mi2' na1' na2' fa1' fa2' lets rlen rlaid rgone rthr were none_ beyo aN bN fN lN_ rN pN twos at_ rdig rpow good txt wri ra rb rfive rleft rright rpart (lv_sub hl [2, 3, 4, 5, 6] rfl) hsim hP hD hS
        · refine lv_aload_n hx hb d_law_223 rfl (lv_at hl 6 rfl) ?_
          refine lv_iconst hx hb d_law_224 ic_0 ?_
          refine va_lald hx hb hK hP 6 1 rfl rfl (nI_in (c := 0) (by decide) (by decide)) d_law_225 ?_
          refine lv_lload hx hb d_law_226 (lv_at hl 0 rfl) ?_
          refine W.lcmp hx hb d_law_228 ?_
          refine lv_if_eq (tgt := 234) hx hb d_law_229 rfl (fun _ => ?_) (fun hc2 => absurd ((lg_cmp_eq _ _).mpr ((show _ = _ from hfo hc))) hc2)
          refine lv_goto (tgt := 705) hx hb d_law_234 rfl ?_
          exact fin ls _ _ fo' len tk row dig pw used lost lim laid gone thr' m1' m2' e1' e2' mi1' mi2' na1' na2' fa1' fa2' lets rlen rlaid rgone rthr were none_ beyo aN bN fN lN_ rN pN twos at_ rdig rpow good txt wri ra rb rfive rleft rright rpart (lv_sub hl [2, 3, 4, 5, 6] rfl) hsim hP hD hS
      refine q_HS (D := D) (A := A) (E := fun U => eE oF oD kA vA A U U.heap) (hh := [(0, 14, 17, 13), (0, 14, 21, 15)]) (As := [.ref (adC 0), .int (xs (7 * i + 1)), .long ((((xs (7 * i + 2)).toInt64) <<< (((32 : Int32)).toInt64 &&& 63)) ||| (((xs (7 * i + 3)).toInt64) &&& (4294967295 : Int64))), .long ((((xs (7 * i + 4)).toInt64) <<< (((32 : Int32)).toInt64 &&& 63)) ||| (((xs (7 * i + 5)).toInt64) &&& (4294967295 : Int64))), .int (xs (7 * i + 6)), .ref ao]) (rest := []) (n := 6) hx hb hml hown hts (c_Lw_binary l hst D A cI cL cC adC ao (gM cI cL cC adM [] laid gone thr m1 m2 e1 e2 mi1 mi2 na1 na2 fa1 fa2 lets rlen rlaid rgone rthr were none_ beyo aN bN fN lN_ rN pN twos at_ rdig rpow good txt wri ra rb rfive rleft rright rpart) fo len tk row dig pw used lost lim oF oD kA vA 10001 (xs (7 * i + 1)) ((((xs (7 * i + 2)).toInt64) <<< (((32 : Int32)).toInt64 &&& 63)) ||| (((xs (7 * i + 3)).toInt64) &&& (4294967295 : Int64))) ((((xs (7 * i + 4)).toInt64) <<< (((32 : Int32)).toInt64 &&& 63)) ||| (((xs (7 * i + 5)).toInt64) &&& (4294967295 : Int64))) (xs (7 * i + 6)) r f1) rfl rfl ml_10 ml_11 ml_12 ml_13 (by decide +kernel) ⟨Nat.le_of_ble_eq_true rfl, Nat.le_of_ble_eq_true rfl⟩ (fun U g mk a h => eE_bl U g mk a h) (fun U hU hW => eEe_of hU hW hS hE) hNB hK hP hD hS rfl hl.1 rfl (Nat.le_of_ble_eq_true rfl) d_law_139 ⟨(show 18 + i + 1 ≤ 1048 by omega), (show 4521 + 6 * i + 6 ≤ 12749 by omega)⟩ (fun ov st t locs hq h0 hS1 => ?_)
      rcases hq with ⟨k, hk, hov, hP, hD, hF⟩ | ⟨x, hx2, hov, hP, hD, hF⟩
      · cases hov
        rcases hag with ⟨k', hk2, hr, ht'⟩ | ⟨hr, -⟩
        · obtain rfl : k = k' := Sum.inl.inj (hk.symm.trans hr)
          exact cont _ fo _ _ ht'.symm (fun z => absurd z (nI_k hk2)) hP hD (hS1 hF)
        · cases hk.symm.trans hr
      · cases hov
        rcases hag with ⟨k', -, hr, -⟩ | ⟨hr, ht'⟩
        · cases hx2.symm.trans hr
        · obtain rfl : x = v := Sum.inr.inj (hx2.symm.trans hr)
          exact cont _ _ _ _ ht'.symm (fun _ => rfl) hP hD (hS1 hF)
    by_cases hc1 : ((xs (7 * i)) &&& (7 : Int32)) = (1 : Int32)
    · refine lv_tableIn (off := 197) (tgt := 237) hx hb d_law_40 (by rw [hc1]; decide) (by rw [hc1]; decide) (by rw [hc1]; rfl) rfl ?_
      refine lv_aload_n hx hb d_law_237 rfl (lv_at hl 2 rfl) ?_
      refine lv_aload_n hx hb d_law_238 rfl (lv_at hl 1 rfl) ?_
      refine lv_iload hx hb d_law_239 (lv_at hl 0 rfl) ?_
      refine lv_iconst hx hb d_law_241 ic_1 ?_
      refine lv_iadd hx hb d_law_242 ?_
      refine q_sld hx hb hX hbl hbA hS (j := 7 * i + 1) (nI_add (7 * i) 1) (by omega) hL d_law_243 ?_
      refine lv_i2l hx hb d_law_244 rfl ?_
      refine lv_bipush hx hb d_law_245 bp_32 ?_
      refine lv_lshl hx hb d_law_247 rfl ?_
      refine lv_aload_n hx hb d_law_248 rfl (lv_at hl 1 rfl) ?_
      refine lv_iload hx hb d_law_249 (lv_at hl 0 rfl) ?_
      refine lv_iconst hx hb d_law_251 ic_2 ?_
      refine lv_iadd hx hb d_law_252 ?_
      refine q_sld hx hb hX hbl hbA hS (j := 7 * i + 2) (nI_add (7 * i) 2) (by omega) hL d_law_253 ?_
      refine lv_i2l hx hb d_law_254 rfl ?_
      refine lv_ldc2 hx hb hown (hT _ ml_0) d_law_255 ?_
      refine lv_land hx hb d_law_258 ?_
      refine lv_lor hx hb d_law_259 ?_
      refine lv_aload_n hx hb d_law_260 rfl (lv_at hl 1 rfl) ?_
      refine lv_iload hx hb d_law_261 (lv_at hl 0 rfl) ?_
      refine lv_iconst hx hb d_law_263 ic_3 ?_
      refine lv_iadd hx hb d_law_264 ?_
      refine q_sld hx hb hX hbl hbA hS (j := 7 * i + 3) (nI_add (7 * i) 3) (by omega) hL d_law_265 ?_
      refine lv_aload_n hx hb d_law_266 rfl (lv_at hl 4 rfl) ?_
      obtain ⟨r, v, thr', ⟨m1', m2', e1', e2', mi1', mi2', na1', na2', fa1', fa2'⟩, f1, f2, hag⟩ := t_minus ((((xs (7 * i + 1)).toInt64) <<< (((32 : Int32)).toInt64 &&& 63)) ||| (((xs (7 * i + 2)).toInt64) &&& (4294967295 : Int64))) (xs (7 * i + 3)) 10001 thr m1 m2 e1 e2 mi1 mi2 na1 na2 fa1 fa2
      have cont : ∀ (kr : Int32) (fo' : Nat → Int64) (H : Heap) (locs : List Loc), kr = thr' → (kr = 0 → fo' 0 = v) → va_P D cls (gC cI cL cC adC ((ao, .inl (cL, 1, .inr (.inl fo'))) :: gM cI cL cC adM [] laid gone thr m1 m2 e1 e2 mi1 mi2 na1 na2 fa1 fa2 lets rlen rlaid rgone rthr were none_ beyo aN bN fN lN_ rN pN twos at_ rdig rpow good txt wri ra rb rfive rleft rright rpart) len tk row dig pw used lost lim) H → va_D A (gC cI cL cC adC ((ao, .inl (cL, 1, .inr (.inl fo'))) :: gM cI cL cC adM [] laid gone thr m1 m2 e1 e2 mi1 mi2 na1 na2 fa1 fa2 lets rlen rlaid rgone rthr were none_ beyo aN bN fN lN_ rN pN twos at_ rdig rpow good txt wri ra rb rfive rleft rright rpart) len tk row dig pw used lost lim) → va_S A s.heap H locs → W p l e room_1 s m #[Value.ref b] below meth c H locs (18 + i + 1) (4521 + 6 * i + 6) (lw_Z below #[Value.ref b] s) (F0 m 270 ls [.int kr]) := by
        intro kr fo' H locs hkr hfo hP hD hS
        refine lv_istore hx hb d_law_270 hl (by decide) rfl (fun ls hl => ?_)
        have hl : lv_has ls 8 [(5, .int kr), (4, .int (nI (7 * i))), (0, .ref b), (1, .ref (adC 0)), (2, .ref (adM 0)), (3, .ref ao)] := hl
        refine lv_aload_n hx hb d_law_272 rfl (lv_at hl 4 rfl) ?_
        refine lv_aload_n hx hb d_law_273 rfl (lv_at hl 2 rfl) ?_
        refine lv_iload hx hb d_law_274 (lv_at hl 1 rfl) ?_
        refine lv_iconst hx hb d_law_276 ic_1 ?_
        refine lv_iadd hx hb d_law_277 ?_
        refine q_sld hx hb hX hbl hbA hS (j := 7 * i + 1) (nI_add (7 * i) 1) (by omega) hL d_law_278 ?_
        refine lv_i2l hx hb d_law_279 rfl ?_
        refine lv_bipush hx hb d_law_280 bp_32 ?_
        refine lv_lshl hx hb d_law_282 rfl ?_
        refine lv_aload_n hx hb d_law_283 rfl (lv_at hl 2 rfl) ?_
        refine lv_iload hx hb d_law_284 (lv_at hl 1 rfl) ?_
        refine lv_iconst hx hb d_law_286 ic_2 ?_
        refine lv_iadd hx hb d_law_287 ?_
        refine q_sld hx hb hX hbl hbA hS (j := 7 * i + 2) (nI_add (7 * i) 2) (by omega) hL d_law_288 ?_
        refine lv_i2l hx hb d_law_289 rfl ?_
        refine lv_ldc2 hx hb hown (hT _ ml_0) d_law_290 ?_
        refine lv_land hx hb d_law_293 ?_
        refine lv_lor hx hb d_law_294 ?_
        refine lv_aload_n hx hb d_law_295 rfl (lv_at hl 2 rfl) ?_
        refine lv_iload hx hb d_law_296 (lv_at hl 1 rfl) ?_
        refine lv_iconst hx hb d_law_298 ic_3 ?_
        refine lv_iadd hx hb d_law_299 ?_
        refine q_sld hx hb hX hbl hbA hS (j := 7 * i + 3) (nI_add (7 * i) 3) (by omega) hL d_law_300 ?_
        have hP := to_M hP
        have hD := to_Md hD
        have hP : va_P D cls (gM cI cL cC adM (gC cI cL cC adC [(ao, .inl (cL, 1, .inr (.inl fo')))] len tk row dig pw used lost lim) laid gone thr m1 m2 e1 e2 mi1 mi2 na1 na2 fa1 fa2 lets rlen rlaid rgone rthr were none_ beyo aN bN fN lN_ rN pN twos at_ rdig rpow good txt wri ra rb rfive rleft rright rpart) H := hP
        have hD : va_D A (gM cI cL cC adM (gC cI cL cC adC [(ao, .inl (cL, 1, .inr (.inl fo')))] len tk row dig pw used lost lim) laid gone thr m1 m2 e1 e2 mi1 mi2 na1 na2 fa1 fa2 lets rlen rlaid rgone rthr were none_ beyo aN bN fN lN_ rN pN twos at_ rdig rpow good txt wri ra rb rfive rleft rright rpart) := hD
        refine q_GV (D := D) (A := A) (C := R_Md) (b := adM 0) (As := [.long ((((xs (7 * i + 1)).toInt64) <<< (((32 : Int32)).toInt64 &&& 63)) ||| (((xs (7 * i + 2)).toInt64) &&& (4294967295 : Int64))), .int (xs (7 * i + 3))]) (rest := []) (n := 2) hx hb hml hown hts (c_Md_minus l D A cI cL cC adM (gC cI cL cC adC [(ao, .inl (cL, 1, .inr (.inl fo')))] len tk row dig pw used lost lim) laid gone thr m1 m2 e1 e2 mi1 mi2 na1 na2 fa1 fa2 lets rlen rlaid rgone rthr were none_ beyo aN bN fN lN_ rN pN twos at_ rdig rpow good txt wri ra rb rfive rleft rright rpart ((((xs (7 * i + 1)).toInt64) <<< (((32 : Int32)).toInt64 &&& 63)) ||| (((xs (7 * i + 2)).toInt64) &&& (4294967295 : Int64))) (xs (7 * i + 3)) (v, thr', m1', m2', e1', e2', mi1', mi2', na1', na2', fa1', fa2') f2) rfl rfl ml_14 ml_15 ml_16 ml_17 ml_5 (by decide +kernel) ⟨Nat.le_of_ble_eq_true rfl, Nat.le_of_ble_eq_true rfl⟩ (va_recv hK hP (ci := 4) rfl (q0 := 0) rfl) hNB hK hP hD hS rfl hl.1 rfl (Nat.le_of_ble_eq_true rfl) d_law_301 ⟨(show 18 + i + 1 ≤ 1048 by omega), (show 4521 + 6 * i + 6 ≤ 12749 by omega)⟩ (fun H locs hP hD hS => ?_)
        have hP : va_P D cls (gM cI cL cC adM (gC cI cL cC adC [(ao, .inl (cL, 1, .inr (.inl fo')))] len tk row dig pw used lost lim) laid gone thr' m1' m2' e1' e2' mi1' mi2' na1' na2' fa1' fa2' lets rlen rlaid rgone rthr were none_ beyo aN bN fN lN_ rN pN twos at_ rdig rpow good txt wri ra rb rfive rleft rright rpart) H := hP
        have hD : va_D A (gM cI cL cC adM (gC cI cL cC adC [(ao, .inl (cL, 1, .inr (.inl fo')))] len tk row dig pw used lost lim) laid gone thr' m1' m2' e1' e2' mi1' mi2' na1' na2' fa1' fa2' lets rlen rlaid rgone rthr were none_ beyo aN bN fN lN_ rN pN twos at_ rdig rpow good txt wri ra rb rfive rleft rright rpart) := hD
        refine lv_lstore hx hb d_law_304 hl (by decide) rfl (fun ls hl => ?_)
        have hl : lv_has ls 8 [(6, .long v), (5, .int kr), (4, .int (nI (7 * i))), (0, .ref b), (1, .ref (adC 0)), (2, .ref (adM 0)), (3, .ref ao)] := hl
        refine lv_aload_n hx hb d_law_306 rfl (lv_at hl 5 rfl) ?_
        refine q_GV (D := D) (A := A) (C := R_Md) (b := adM 0) (As := []) (rest := []) (n := 0) hx hb hml hown hts (c_Md_thrown l D A cI cL cC adM (gC cI cL cC adC [(ao, .inl (cL, 1, .inr (.inl fo')))] len tk row dig pw used lost lim) laid gone thr' m1' m2' e1' e2' mi1' mi2' na1' na2' fa1' fa2' lets rlen rlaid rgone rthr were none_ beyo aN bN fN lN_ rN pN twos at_ rdig rpow good txt wri ra rb rfive rleft rright rpart thr' rfl) rfl rfl ml_6 ml_7 ml_8 ml_9 ml_5 (by decide +kernel) ⟨Nat.le_of_ble_eq_true rfl, Nat.le_of_ble_eq_true rfl⟩ (va_recv hK hP (ci := 4) rfl (q0 := 0) rfl) hNB hK hP hD hS rfl hl.1 rfl (Nat.le_of_ble_eq_true rfl) d_law_307 ⟨(show 18 + i + 1 ≤ 1048 by omega), (show 4521 + 6 * i + 6 ≤ 12749 by omega)⟩ (fun H locs hP hD hS => ?_)
        have hP : va_P D cls (gM cI cL cC adM (gC cI cL cC adC [(ao, .inl (cL, 1, .inr (.inl fo')))] len tk row dig pw used lost lim) laid gone thr' m1' m2' e1' e2' mi1' mi2' na1' na2' fa1' fa2' lets rlen rlaid rgone rthr were none_ beyo aN bN fN lN_ rN pN twos at_ rdig rpow good txt wri ra rb rfive rleft rright rpart) H := hP
        have hD : va_D A (gM cI cL cC adM (gC cI cL cC adC [(ao, .inl (cL, 1, .inr (.inl fo')))] len tk row dig pw used lost lim) laid gone thr' m1' m2' e1' e2' mi1' mi2' na1' na2' fa1' fa2' lets rlen rlaid rgone rthr were none_ beyo aN bN fN lN_ rN pN twos at_ rdig rpow good txt wri ra rb rfive rleft rright rpart) := hD
        have hP := to_C hP
        have hD := to_Cd hD
        have hP : va_P D cls (gC cI cL cC adC ((ao, .inl (cL, 1, .inr (.inl fo'))) :: gM cI cL cC adM [] laid gone thr' m1' m2' e1' e2' mi1' mi2' na1' na2' fa1' fa2' lets rlen rlaid rgone rthr were none_ beyo aN bN fN lN_ rN pN twos at_ rdig rpow good txt wri ra rb rfive rleft rright rpart) len tk row dig pw used lost lim) H := hP
        have hD : va_D A (gC cI cL cC adC ((ao, .inl (cL, 1, .inr (.inl fo'))) :: gM cI cL cC adM [] laid gone thr' m1' m2' e1' e2' mi1' mi2' na1' na2' fa1' fa2' lets rlen rlaid rgone rthr were none_ beyo aN bN fN lN_ rN pN twos at_ rdig rpow good txt wri ra rb rfive rleft rright rpart) len tk row dig pw used lost lim) := hD
        refine lv_iload hx hb d_law_310 (lv_at hl 1 rfl) ?_
        refine lv_icmp_eq (tgt := 317) hx hb d_law_312 rfl (fun _ => ?_) (fun hc => absurd hkr.symm hc)
        refine lv_iload hx hb d_law_317 (lv_at hl 1 rfl) ?_
        refine lv_if_ne (tgt := 333) hx hb d_law_319 rfl (fun _ => ?_) (fun hc => ?_)
        · refine lv_goto (tgt := 705) hx hb d_law_333 rfl ?_
          exact fin ls _ _ fo' len tk row dig pw used lost lim laid gone thr' m1' m2' e1' e2' mi1' mi2' na1' na2' fa1' fa2' lets rlen rlaid rgone rthr were none_ beyo aN bN fN lN_ rN pN twos at_ rdig rpow good txt wri ra rb rfive rleft rright rpart (lv_sub hl [2, 3, 4, 5, 6] rfl) hsim hP hD hS
        · refine lv_aload_n hx hb d_law_322 rfl (lv_at hl 6 rfl) ?_
          refine lv_iconst hx hb d_law_323 ic_0 ?_
          refine va_lald hx hb hK hP 6 1 rfl rfl (nI_in (c := 0) (by decide) (by decide)) d_law_324 ?_
          refine lv_lload hx hb d_law_325 (lv_at hl 0 rfl) ?_
          refine W.lcmp hx hb d_law_327 ?_
          refine lv_if_eq (tgt := 333) hx hb d_law_328 rfl (fun _ => ?_) (fun hc2 => absurd ((lg_cmp_eq _ _).mpr ((show _ = _ from hfo hc))) hc2)
          refine lv_goto (tgt := 705) hx hb d_law_333 rfl ?_
          exact fin ls _ _ fo' len tk row dig pw used lost lim laid gone thr' m1' m2' e1' e2' mi1' mi2' na1' na2' fa1' fa2' lets rlen rlaid rgone rthr were none_ beyo aN bN fN lN_ rN pN twos at_ rdig rpow good txt wri ra rb rfive rleft rright rpart (lv_sub hl [2, 3, 4, 5, 6] rfl) hsim hP hD hS
      refine q_HS (D := D) (A := A) (E := fun U => eE oF oD kA vA A U U.heap) (hh := [(0, 10, 13, 13)]) (As := [.ref (adC 0), .long ((((xs (7 * i + 1)).toInt64) <<< (((32 : Int32)).toInt64 &&& 63)) ||| (((xs (7 * i + 2)).toInt64) &&& (4294967295 : Int64))), .int (xs (7 * i + 3)), .ref ao]) (rest := []) (n := 4) hx hb hml hown hts (c_Lw_minus l hst D A cI cL cC adC ao (gM cI cL cC adM [] laid gone thr m1 m2 e1 e2 mi1 mi2 na1 na2 fa1 fa2 lets rlen rlaid rgone rthr were none_ beyo aN bN fN lN_ rN pN twos at_ rdig rpow good txt wri ra rb rfive rleft rright rpart) fo len tk row dig pw used lost lim oF oD kA vA 10001 ((((xs (7 * i + 1)).toInt64) <<< (((32 : Int32)).toInt64 &&& 63)) ||| (((xs (7 * i + 2)).toInt64) &&& (4294967295 : Int64))) (xs (7 * i + 3)) r f1) rfl rfl ml_18 ml_19 ml_20 ml_13 (by decide +kernel) ⟨Nat.le_of_ble_eq_true rfl, Nat.le_of_ble_eq_true rfl⟩ (fun U g mk a h => eE_bl U g mk a h) (fun U hU hW => eEe_of hU hW hS hE) hNB hK hP hD hS rfl hl.1 rfl (Nat.le_of_ble_eq_true rfl) d_law_267 ⟨(show 18 + i + 1 ≤ 1048 by omega), (show 4521 + 6 * i + 6 ≤ 12749 by omega)⟩ (fun ov st t locs hq h0 hS1 => ?_)
      rcases hq with ⟨k, hk, hov, hP, hD, hF⟩ | ⟨x, hx2, hov, hP, hD, hF⟩
      · cases hov
        rcases hag with ⟨k', hk2, hr, ht'⟩ | ⟨hr, -⟩
        · obtain rfl : k = k' := Sum.inl.inj (hk.symm.trans hr)
          exact cont _ fo _ _ ht'.symm (fun z => absurd z (nI_k hk2)) hP hD (hS1 hF)
        · cases hk.symm.trans hr
      · cases hov
        rcases hag with ⟨k', -, hr, -⟩ | ⟨hr, ht'⟩
        · cases hx2.symm.trans hr
        · obtain rfl : x = v := Sum.inr.inj (hx2.symm.trans hr)
          exact cont _ _ _ _ ht'.symm (fun _ => rfl) hP hD (hS1 hF)
    by_cases hc2 : ((xs (7 * i)) &&& (7 : Int32)) = (2 : Int32)
    · refine lv_tableIn (off := 296) (tgt := 336) hx hb d_law_40 (by rw [hc2]; decide) (by rw [hc2]; decide) (by rw [hc2]; rfl) rfl ?_
      refine lv_aload_n hx hb d_law_336 rfl (lv_at hl 2 rfl) ?_
      refine lv_aload_n hx hb d_law_337 rfl (lv_at hl 1 rfl) ?_
      refine lv_iload hx hb d_law_338 (lv_at hl 0 rfl) ?_
      refine lv_iconst hx hb d_law_340 ic_1 ?_
      refine lv_iadd hx hb d_law_341 ?_
      refine q_sld hx hb hX hbl hbA hS (j := 7 * i + 1) (nI_add (7 * i) 1) (by omega) hL d_law_342 ?_
      refine lv_i2l hx hb d_law_343 rfl ?_
      refine lv_bipush hx hb d_law_344 bp_32 ?_
      refine lv_lshl hx hb d_law_346 rfl ?_
      refine lv_aload_n hx hb d_law_347 rfl (lv_at hl 1 rfl) ?_
      refine lv_iload hx hb d_law_348 (lv_at hl 0 rfl) ?_
      refine lv_iconst hx hb d_law_350 ic_2 ?_
      refine lv_iadd hx hb d_law_351 ?_
      refine q_sld hx hb hX hbl hbA hS (j := 7 * i + 2) (nI_add (7 * i) 2) (by omega) hL d_law_352 ?_
      refine lv_i2l hx hb d_law_353 rfl ?_
      refine lv_ldc2 hx hb hown (hT _ ml_0) d_law_354 ?_
      refine lv_land hx hb d_law_357 ?_
      refine lv_lor hx hb d_law_358 ?_
      refine lv_aload_n hx hb d_law_359 rfl (lv_at hl 1 rfl) ?_
      refine lv_iload hx hb d_law_360 (lv_at hl 0 rfl) ?_
      refine lv_iconst hx hb d_law_362 ic_3 ?_
      refine lv_iadd hx hb d_law_363 ?_
      refine q_sld hx hb hX hbl hbA hS (j := 7 * i + 3) (nI_add (7 * i) 3) (by omega) hL d_law_364 ?_
      refine lv_aload_n hx hb d_law_365 rfl (lv_at hl 1 rfl) ?_
      refine lv_iload hx hb d_law_366 (lv_at hl 0 rfl) ?_
      refine lv_iconst hx hb d_law_368 ic_4 ?_
      refine lv_iadd hx hb d_law_369 ?_
      refine q_sld hx hb hX hbl hbA hS (j := 7 * i + 4) (nI_add (7 * i) 4) (by omega) hL d_law_370 ?_
      refine lv_aload_n hx hb d_law_371 rfl (lv_at hl 4 rfl) ?_
      obtain ⟨r, v, thr', ⟨m1', m2', e1', e2', mi1', mi2', na1', na2', fa1', fa2'⟩, f1, f2, hag⟩ := t_cast ((((xs (7 * i + 1)).toInt64) <<< (((32 : Int32)).toInt64 &&& 63)) ||| (((xs (7 * i + 2)).toInt64) &&& (4294967295 : Int64))) (xs (7 * i + 3)) (xs (7 * i + 4)) (n := 10001) (by decide) thr m1 m2 e1 e2 mi1 mi2 na1 na2 fa1 fa2
      have cont : ∀ (kr : Int32) (fo' : Nat → Int64) (H : Heap) (locs : List Loc), kr = thr' → (kr = 0 → fo' 0 = v) → va_P D cls (gC cI cL cC adC ((ao, .inl (cL, 1, .inr (.inl fo'))) :: gM cI cL cC adM [] laid gone thr m1 m2 e1 e2 mi1 mi2 na1 na2 fa1 fa2 lets rlen rlaid rgone rthr were none_ beyo aN bN fN lN_ rN pN twos at_ rdig rpow good txt wri ra rb rfive rleft rright rpart) len tk row dig pw used lost lim) H → va_D A (gC cI cL cC adC ((ao, .inl (cL, 1, .inr (.inl fo'))) :: gM cI cL cC adM [] laid gone thr m1 m2 e1 e2 mi1 mi2 na1 na2 fa1 fa2 lets rlen rlaid rgone rthr were none_ beyo aN bN fN lN_ rN pN twos at_ rdig rpow good txt wri ra rb rfive rleft rright rpart) len tk row dig pw used lost lim) → va_S A s.heap H locs → W p l e room_1 s m #[Value.ref b] below meth c H locs (18 + i + 1) (4521 + 6 * i + 6) (lw_Z below #[Value.ref b] s) (F0 m 375 ls [.int kr]) := by
        intro kr fo' H locs hkr hfo hP hD hS
        refine lv_istore hx hb d_law_375 hl (by decide) rfl (fun ls hl => ?_)
        have hl : lv_has ls 8 [(5, .int kr), (4, .int (nI (7 * i))), (0, .ref b), (1, .ref (adC 0)), (2, .ref (adM 0)), (3, .ref ao)] := hl
        refine lv_aload_n hx hb d_law_377 rfl (lv_at hl 4 rfl) ?_
        refine lv_aload_n hx hb d_law_378 rfl (lv_at hl 2 rfl) ?_
        refine lv_iload hx hb d_law_379 (lv_at hl 1 rfl) ?_
        refine lv_iconst hx hb d_law_381 ic_1 ?_
        refine lv_iadd hx hb d_law_382 ?_
        refine q_sld hx hb hX hbl hbA hS (j := 7 * i + 1) (nI_add (7 * i) 1) (by omega) hL d_law_383 ?_
        refine lv_i2l hx hb d_law_384 rfl ?_
        refine lv_bipush hx hb d_law_385 bp_32 ?_
        refine lv_lshl hx hb d_law_387 rfl ?_
        refine lv_aload_n hx hb d_law_388 rfl (lv_at hl 2 rfl) ?_
        refine lv_iload hx hb d_law_389 (lv_at hl 1 rfl) ?_
        refine lv_iconst hx hb d_law_391 ic_2 ?_
        refine lv_iadd hx hb d_law_392 ?_
        refine q_sld hx hb hX hbl hbA hS (j := 7 * i + 2) (nI_add (7 * i) 2) (by omega) hL d_law_393 ?_
        refine lv_i2l hx hb d_law_394 rfl ?_
        refine lv_ldc2 hx hb hown (hT _ ml_0) d_law_395 ?_
        refine lv_land hx hb d_law_398 ?_
        refine lv_lor hx hb d_law_399 ?_
        refine lv_aload_n hx hb d_law_400 rfl (lv_at hl 2 rfl) ?_
        refine lv_iload hx hb d_law_401 (lv_at hl 1 rfl) ?_
        refine lv_iconst hx hb d_law_403 ic_3 ?_
        refine lv_iadd hx hb d_law_404 ?_
        refine q_sld hx hb hX hbl hbA hS (j := 7 * i + 3) (nI_add (7 * i) 3) (by omega) hL d_law_405 ?_
        refine lv_aload_n hx hb d_law_406 rfl (lv_at hl 2 rfl) ?_
        refine lv_iload hx hb d_law_407 (lv_at hl 1 rfl) ?_
        refine lv_iconst hx hb d_law_409 ic_4 ?_
        refine lv_iadd hx hb d_law_410 ?_
        refine q_sld hx hb hX hbl hbA hS (j := 7 * i + 4) (nI_add (7 * i) 4) (by omega) hL d_law_411 ?_
        have hP := to_M hP
        have hD := to_Md hD
        have hP : va_P D cls (gM cI cL cC adM (gC cI cL cC adC [(ao, .inl (cL, 1, .inr (.inl fo')))] len tk row dig pw used lost lim) laid gone thr m1 m2 e1 e2 mi1 mi2 na1 na2 fa1 fa2 lets rlen rlaid rgone rthr were none_ beyo aN bN fN lN_ rN pN twos at_ rdig rpow good txt wri ra rb rfive rleft rright rpart) H := hP
        have hD : va_D A (gM cI cL cC adM (gC cI cL cC adC [(ao, .inl (cL, 1, .inr (.inl fo')))] len tk row dig pw used lost lim) laid gone thr m1 m2 e1 e2 mi1 mi2 na1 na2 fa1 fa2 lets rlen rlaid rgone rthr were none_ beyo aN bN fN lN_ rN pN twos at_ rdig rpow good txt wri ra rb rfive rleft rright rpart) := hD
        refine q_GV (D := D) (A := A) (C := R_Md) (b := adM 0) (As := [.long ((((xs (7 * i + 1)).toInt64) <<< (((32 : Int32)).toInt64 &&& 63)) ||| (((xs (7 * i + 2)).toInt64) &&& (4294967295 : Int64))), .int (xs (7 * i + 3)), .int (xs (7 * i + 4))]) (rest := []) (n := 3) hx hb hml hown hts (c_Md_cast l D A cI cL cC adM (gC cI cL cC adC [(ao, .inl (cL, 1, .inr (.inl fo')))] len tk row dig pw used lost lim) laid gone thr m1 m2 e1 e2 mi1 mi2 na1 na2 fa1 fa2 lets rlen rlaid rgone rthr were none_ beyo aN bN fN lN_ rN pN twos at_ rdig rpow good txt wri ra rb rfive rleft rright rpart 10001 ((((xs (7 * i + 1)).toInt64) <<< (((32 : Int32)).toInt64 &&& 63)) ||| (((xs (7 * i + 2)).toInt64) &&& (4294967295 : Int64))) (xs (7 * i + 3)) (xs (7 * i + 4)) (v, thr', m1', m2', e1', e2', mi1', mi2', na1', na2', fa1', fa2') f2) rfl rfl ml_21 ml_22 ml_23 ml_24 ml_5 (by decide +kernel) ⟨Nat.le_of_ble_eq_true rfl, Nat.le_of_ble_eq_true rfl⟩ (va_recv hK hP (ci := 4) rfl (q0 := 0) rfl) hNB hK hP hD hS rfl hl.1 rfl (Nat.le_of_ble_eq_true rfl) d_law_412 ⟨(show 18 + i + 1 ≤ 1048 by omega), (show 4521 + 6 * i + 6 ≤ 12749 by omega)⟩ (fun H locs hP hD hS => ?_)
        have hP : va_P D cls (gM cI cL cC adM (gC cI cL cC adC [(ao, .inl (cL, 1, .inr (.inl fo')))] len tk row dig pw used lost lim) laid gone thr' m1' m2' e1' e2' mi1' mi2' na1' na2' fa1' fa2' lets rlen rlaid rgone rthr were none_ beyo aN bN fN lN_ rN pN twos at_ rdig rpow good txt wri ra rb rfive rleft rright rpart) H := hP
        have hD : va_D A (gM cI cL cC adM (gC cI cL cC adC [(ao, .inl (cL, 1, .inr (.inl fo')))] len tk row dig pw used lost lim) laid gone thr' m1' m2' e1' e2' mi1' mi2' na1' na2' fa1' fa2' lets rlen rlaid rgone rthr were none_ beyo aN bN fN lN_ rN pN twos at_ rdig rpow good txt wri ra rb rfive rleft rright rpart) := hD
        refine lv_lstore hx hb d_law_415 hl (by decide) rfl (fun ls hl => ?_)
        have hl : lv_has ls 8 [(6, .long v), (5, .int kr), (4, .int (nI (7 * i))), (0, .ref b), (1, .ref (adC 0)), (2, .ref (adM 0)), (3, .ref ao)] := hl
        refine lv_aload_n hx hb d_law_417 rfl (lv_at hl 5 rfl) ?_
        refine q_GV (D := D) (A := A) (C := R_Md) (b := adM 0) (As := []) (rest := []) (n := 0) hx hb hml hown hts (c_Md_thrown l D A cI cL cC adM (gC cI cL cC adC [(ao, .inl (cL, 1, .inr (.inl fo')))] len tk row dig pw used lost lim) laid gone thr' m1' m2' e1' e2' mi1' mi2' na1' na2' fa1' fa2' lets rlen rlaid rgone rthr were none_ beyo aN bN fN lN_ rN pN twos at_ rdig rpow good txt wri ra rb rfive rleft rright rpart thr' rfl) rfl rfl ml_6 ml_7 ml_8 ml_9 ml_5 (by decide +kernel) ⟨Nat.le_of_ble_eq_true rfl, Nat.le_of_ble_eq_true rfl⟩ (va_recv hK hP (ci := 4) rfl (q0 := 0) rfl) hNB hK hP hD hS rfl hl.1 rfl (Nat.le_of_ble_eq_true rfl) d_law_418 ⟨(show 18 + i + 1 ≤ 1048 by omega), (show 4521 + 6 * i + 6 ≤ 12749 by omega)⟩ (fun H locs hP hD hS => ?_)
        have hP : va_P D cls (gM cI cL cC adM (gC cI cL cC adC [(ao, .inl (cL, 1, .inr (.inl fo')))] len tk row dig pw used lost lim) laid gone thr' m1' m2' e1' e2' mi1' mi2' na1' na2' fa1' fa2' lets rlen rlaid rgone rthr were none_ beyo aN bN fN lN_ rN pN twos at_ rdig rpow good txt wri ra rb rfive rleft rright rpart) H := hP
        have hD : va_D A (gM cI cL cC adM (gC cI cL cC adC [(ao, .inl (cL, 1, .inr (.inl fo')))] len tk row dig pw used lost lim) laid gone thr' m1' m2' e1' e2' mi1' mi2' na1' na2' fa1' fa2' lets rlen rlaid rgone rthr were none_ beyo aN bN fN lN_ rN pN twos at_ rdig rpow good txt wri ra rb rfive rleft rright rpart) := hD
        have hP := to_C hP
        have hD := to_Cd hD
        have hP : va_P D cls (gC cI cL cC adC ((ao, .inl (cL, 1, .inr (.inl fo'))) :: gM cI cL cC adM [] laid gone thr' m1' m2' e1' e2' mi1' mi2' na1' na2' fa1' fa2' lets rlen rlaid rgone rthr were none_ beyo aN bN fN lN_ rN pN twos at_ rdig rpow good txt wri ra rb rfive rleft rright rpart) len tk row dig pw used lost lim) H := hP
        have hD : va_D A (gC cI cL cC adC ((ao, .inl (cL, 1, .inr (.inl fo'))) :: gM cI cL cC adM [] laid gone thr' m1' m2' e1' e2' mi1' mi2' na1' na2' fa1' fa2' lets rlen rlaid rgone rthr were none_ beyo aN bN fN lN_ rN pN twos at_ rdig rpow good txt wri ra rb rfive rleft rright rpart) len tk row dig pw used lost lim) := hD
        refine lv_iload hx hb d_law_421 (lv_at hl 1 rfl) ?_
        refine lv_icmp_eq (tgt := 428) hx hb d_law_423 rfl (fun _ => ?_) (fun hc => absurd hkr.symm hc)
        refine lv_iload hx hb d_law_428 (lv_at hl 1 rfl) ?_
        refine lv_if_ne (tgt := 444) hx hb d_law_430 rfl (fun _ => ?_) (fun hc => ?_)
        · refine lv_goto (tgt := 705) hx hb d_law_444 rfl ?_
          exact fin ls _ _ fo' len tk row dig pw used lost lim laid gone thr' m1' m2' e1' e2' mi1' mi2' na1' na2' fa1' fa2' lets rlen rlaid rgone rthr were none_ beyo aN bN fN lN_ rN pN twos at_ rdig rpow good txt wri ra rb rfive rleft rright rpart (lv_sub hl [2, 3, 4, 5, 6] rfl) hsim hP hD hS
        · refine lv_aload_n hx hb d_law_433 rfl (lv_at hl 6 rfl) ?_
          refine lv_iconst hx hb d_law_434 ic_0 ?_
          refine va_lald hx hb hK hP 6 1 rfl rfl (nI_in (c := 0) (by decide) (by decide)) d_law_435 ?_
          refine lv_lload hx hb d_law_436 (lv_at hl 0 rfl) ?_
          refine W.lcmp hx hb d_law_438 ?_
          refine lv_if_eq (tgt := 444) hx hb d_law_439 rfl (fun _ => ?_) (fun hc2 => absurd ((lg_cmp_eq _ _).mpr ((show _ = _ from hfo hc))) hc2)
          refine lv_goto (tgt := 705) hx hb d_law_444 rfl ?_
          exact fin ls _ _ fo' len tk row dig pw used lost lim laid gone thr' m1' m2' e1' e2' mi1' mi2' na1' na2' fa1' fa2' lets rlen rlaid rgone rthr were none_ beyo aN bN fN lN_ rN pN twos at_ rdig rpow good txt wri ra rb rfive rleft rright rpart (lv_sub hl [2, 3, 4, 5, 6] rfl) hsim hP hD hS
      refine q_HS (D := D) (A := A) (E := fun U => eE oF oD kA vA A U U.heap) (hh := [(0, 12, 15, 13)]) (As := [.ref (adC 0), .long ((((xs (7 * i + 1)).toInt64) <<< (((32 : Int32)).toInt64 &&& 63)) ||| (((xs (7 * i + 2)).toInt64) &&& (4294967295 : Int64))), .int (xs (7 * i + 3)), .int (xs (7 * i + 4)), .ref ao]) (rest := []) (n := 5) hx hb hml hown hts (c_Lw_cast l hst D A cI cL cC adC ao (gM cI cL cC adM [] laid gone thr m1 m2 e1 e2 mi1 mi2 na1 na2 fa1 fa2 lets rlen rlaid rgone rthr were none_ beyo aN bN fN lN_ rN pN twos at_ rdig rpow good txt wri ra rb rfive rleft rright rpart) fo len tk row dig pw used lost lim oF oD kA vA 10001 ((((xs (7 * i + 1)).toInt64) <<< (((32 : Int32)).toInt64 &&& 63)) ||| (((xs (7 * i + 2)).toInt64) &&& (4294967295 : Int64))) (xs (7 * i + 3)) (xs (7 * i + 4)) r f1) rfl rfl ml_25 ml_26 ml_27 ml_13 (by decide +kernel) ⟨Nat.le_of_ble_eq_true rfl, Nat.le_of_ble_eq_true rfl⟩ (fun U g mk a h => eE_bl U g mk a h) (fun U hU hW => eEe_of hU hW hS hE) hNB hK hP hD hS rfl hl.1 rfl (Nat.le_of_ble_eq_true rfl) d_law_372 ⟨(show 18 + i + 1 ≤ 1048 by omega), (show 4521 + 6 * i + 6 ≤ 12749 by omega)⟩ (fun ov st t locs hq h0 hS1 => ?_)
      rcases hq with ⟨k, hk, hov, hP, hD, hF⟩ | ⟨x, hx2, hov, hP, hD, hF⟩
      · cases hov
        rcases hag with ⟨k', hk2, hr, ht'⟩ | ⟨hr, -⟩
        · obtain rfl : k = k' := Sum.inl.inj (hk.symm.trans hr)
          exact cont _ fo _ _ ht'.symm (fun z => absurd z (nI_k hk2)) hP hD (hS1 hF)
        · cases hk.symm.trans hr
      · cases hov
        rcases hag with ⟨k', -, hr, -⟩ | ⟨hr, ht'⟩
        · cases hx2.symm.trans hr
        · obtain rfl : x = v := Sum.inr.inj (hx2.symm.trans hr)
          exact cont _ _ _ _ ht'.symm (fun _ => rfl) hP hD (hS1 hF)
    by_cases hc3 : ((xs (7 * i)) &&& (7 : Int32)) = (3 : Int32)
    · refine lv_tableIn (off := 407) (tgt := 447) hx hb d_law_40 (by rw [hc3]; decide) (by rw [hc3]; decide) (by rw [hc3]; rfl) rfl ?_
      refine lv_aload_n hx hb d_law_447 rfl (lv_at hl 2 rfl) ?_
      refine lv_aload_n hx hb d_law_448 rfl (lv_at hl 1 rfl) ?_
      refine lv_iload hx hb d_law_449 (lv_at hl 0 rfl) ?_
      refine lv_iconst hx hb d_law_451 ic_1 ?_
      refine lv_iadd hx hb d_law_452 ?_
      refine q_sld hx hb hX hbl hbA hS (j := 7 * i + 1) (nI_add (7 * i) 1) (by omega) hL d_law_453 ?_
      refine lv_i2l hx hb d_law_454 rfl ?_
      refine lv_bipush hx hb d_law_455 bp_32 ?_
      refine lv_lshl hx hb d_law_457 rfl ?_
      refine lv_aload_n hx hb d_law_458 rfl (lv_at hl 1 rfl) ?_
      refine lv_iload hx hb d_law_459 (lv_at hl 0 rfl) ?_
      refine lv_iconst hx hb d_law_461 ic_2 ?_
      refine lv_iadd hx hb d_law_462 ?_
      refine q_sld hx hb hX hbl hbA hS (j := 7 * i + 2) (nI_add (7 * i) 2) (by omega) hL d_law_463 ?_
      refine lv_i2l hx hb d_law_464 rfl ?_
      refine lv_ldc2 hx hb hown (hT _ ml_0) d_law_465 ?_
      refine lv_land hx hb d_law_468 ?_
      refine lv_lor hx hb d_law_469 ?_
      refine lv_aload_n hx hb d_law_470 rfl (lv_at hl 1 rfl) ?_
      refine lv_iload hx hb d_law_471 (lv_at hl 0 rfl) ?_
      refine lv_iconst hx hb d_law_473 ic_3 ?_
      refine lv_iadd hx hb d_law_474 ?_
      refine q_sld hx hb hX hbl hbA hS (j := 7 * i + 3) (nI_add (7 * i) 3) (by omega) hL d_law_475 ?_
      refine lv_i2l hx hb d_law_476 rfl ?_
      refine lv_bipush hx hb d_law_477 bp_32 ?_
      refine lv_lshl hx hb d_law_479 rfl ?_
      refine lv_aload_n hx hb d_law_480 rfl (lv_at hl 1 rfl) ?_
      refine lv_iload hx hb d_law_481 (lv_at hl 0 rfl) ?_
      refine lv_iconst hx hb d_law_483 ic_4 ?_
      refine lv_iadd hx hb d_law_484 ?_
      refine q_sld hx hb hX hbl hbA hS (j := 7 * i + 4) (nI_add (7 * i) 4) (by omega) hL d_law_485 ?_
      refine lv_i2l hx hb d_law_486 rfl ?_
      refine lv_ldc2 hx hb hown (hT _ ml_0) d_law_487 ?_
      refine lv_land hx hb d_law_490 ?_
      refine lv_lor hx hb d_law_491 ?_
      refine lv_aload_n hx hb d_law_492 rfl (lv_at hl 1 rfl) ?_
      refine lv_iload hx hb d_law_493 (lv_at hl 0 rfl) ?_
      refine lv_iconst hx hb d_law_495 ic_5 ?_
      refine lv_iadd hx hb d_law_496 ?_
      refine q_sld hx hb hX hbl hbA hS (j := 7 * i + 5) (nI_add (7 * i) 5) (by omega) hL d_law_497 ?_
      refine lv_aload_n hx hb d_law_498 rfl (lv_at hl 4 rfl) ?_
      obtain ⟨r, v, thr', ⟨m1', m2', e1', e2', mi1', mi2', na1', na2', fa1', fa2'⟩, f1, f2, hag⟩ := t_compare ((((xs (7 * i + 1)).toInt64) <<< (((32 : Int32)).toInt64 &&& 63)) ||| (((xs (7 * i + 2)).toInt64) &&& (4294967295 : Int64))) ((((xs (7 * i + 3)).toInt64) <<< (((32 : Int32)).toInt64 &&& 63)) ||| (((xs (7 * i + 4)).toInt64) &&& (4294967295 : Int64))) (xs (7 * i + 5)) 10001 thr m1 m2 e1 e2 mi1 mi2 na1 na2 fa1 fa2
      have cont : ∀ (kr : Int32) (fo' : Nat → Int64) (H : Heap) (locs : List Loc), kr = thr' → (kr = 0 → fo' 0 = v.toInt64) → va_P D cls (gC cI cL cC adC ((ao, .inl (cL, 1, .inr (.inl fo'))) :: gM cI cL cC adM [] laid gone thr m1 m2 e1 e2 mi1 mi2 na1 na2 fa1 fa2 lets rlen rlaid rgone rthr were none_ beyo aN bN fN lN_ rN pN twos at_ rdig rpow good txt wri ra rb rfive rleft rright rpart) len tk row dig pw used lost lim) H → va_D A (gC cI cL cC adC ((ao, .inl (cL, 1, .inr (.inl fo'))) :: gM cI cL cC adM [] laid gone thr m1 m2 e1 e2 mi1 mi2 na1 na2 fa1 fa2 lets rlen rlaid rgone rthr were none_ beyo aN bN fN lN_ rN pN twos at_ rdig rpow good txt wri ra rb rfive rleft rright rpart) len tk row dig pw used lost lim) → va_S A s.heap H locs → W p l e room_1 s m #[Value.ref b] below meth c H locs (18 + i + 1) (4521 + 6 * i + 6) (lw_Z below #[Value.ref b] s) (F0 m 502 ls [.int kr]) := by
        intro kr fo' H locs hkr hfo hP hD hS
        refine lv_istore hx hb d_law_502 hl (by decide) rfl (fun ls hl => ?_)
        have hl : lv_has ls 8 [(5, .int kr), (4, .int (nI (7 * i))), (0, .ref b), (1, .ref (adC 0)), (2, .ref (adM 0)), (3, .ref ao)] := hl
        refine lv_aload_n hx hb d_law_504 rfl (lv_at hl 4 rfl) ?_
        refine lv_aload_n hx hb d_law_505 rfl (lv_at hl 2 rfl) ?_
        refine lv_iload hx hb d_law_506 (lv_at hl 1 rfl) ?_
        refine lv_iconst hx hb d_law_508 ic_1 ?_
        refine lv_iadd hx hb d_law_509 ?_
        refine q_sld hx hb hX hbl hbA hS (j := 7 * i + 1) (nI_add (7 * i) 1) (by omega) hL d_law_510 ?_
        refine lv_i2l hx hb d_law_511 rfl ?_
        refine lv_bipush hx hb d_law_512 bp_32 ?_
        refine lv_lshl hx hb d_law_514 rfl ?_
        refine lv_aload_n hx hb d_law_515 rfl (lv_at hl 2 rfl) ?_
        refine lv_iload hx hb d_law_516 (lv_at hl 1 rfl) ?_
        refine lv_iconst hx hb d_law_518 ic_2 ?_
        refine lv_iadd hx hb d_law_519 ?_
        refine q_sld hx hb hX hbl hbA hS (j := 7 * i + 2) (nI_add (7 * i) 2) (by omega) hL d_law_520 ?_
        refine lv_i2l hx hb d_law_521 rfl ?_
        refine lv_ldc2 hx hb hown (hT _ ml_0) d_law_522 ?_
        refine lv_land hx hb d_law_525 ?_
        refine lv_lor hx hb d_law_526 ?_
        refine lv_aload_n hx hb d_law_527 rfl (lv_at hl 2 rfl) ?_
        refine lv_iload hx hb d_law_528 (lv_at hl 1 rfl) ?_
        refine lv_iconst hx hb d_law_530 ic_3 ?_
        refine lv_iadd hx hb d_law_531 ?_
        refine q_sld hx hb hX hbl hbA hS (j := 7 * i + 3) (nI_add (7 * i) 3) (by omega) hL d_law_532 ?_
        refine lv_i2l hx hb d_law_533 rfl ?_
        refine lv_bipush hx hb d_law_534 bp_32 ?_
        refine lv_lshl hx hb d_law_536 rfl ?_
        refine lv_aload_n hx hb d_law_537 rfl (lv_at hl 2 rfl) ?_
        refine lv_iload hx hb d_law_538 (lv_at hl 1 rfl) ?_
        refine lv_iconst hx hb d_law_540 ic_4 ?_
        refine lv_iadd hx hb d_law_541 ?_
        refine q_sld hx hb hX hbl hbA hS (j := 7 * i + 4) (nI_add (7 * i) 4) (by omega) hL d_law_542 ?_
        refine lv_i2l hx hb d_law_543 rfl ?_
        refine lv_ldc2 hx hb hown (hT _ ml_0) d_law_544 ?_
        refine lv_land hx hb d_law_547 ?_
        refine lv_lor hx hb d_law_548 ?_
        refine lv_aload_n hx hb d_law_549 rfl (lv_at hl 2 rfl) ?_
        refine lv_iload hx hb d_law_550 (lv_at hl 1 rfl) ?_
        refine lv_iconst hx hb d_law_552 ic_5 ?_
        refine lv_iadd hx hb d_law_553 ?_
        refine q_sld hx hb hX hbl hbA hS (j := 7 * i + 5) (nI_add (7 * i) 5) (by omega) hL d_law_554 ?_
        have hP := to_M hP
        have hD := to_Md hD
        have hP : va_P D cls (gM cI cL cC adM (gC cI cL cC adC [(ao, .inl (cL, 1, .inr (.inl fo')))] len tk row dig pw used lost lim) laid gone thr m1 m2 e1 e2 mi1 mi2 na1 na2 fa1 fa2 lets rlen rlaid rgone rthr were none_ beyo aN bN fN lN_ rN pN twos at_ rdig rpow good txt wri ra rb rfive rleft rright rpart) H := hP
        have hD : va_D A (gM cI cL cC adM (gC cI cL cC adC [(ao, .inl (cL, 1, .inr (.inl fo')))] len tk row dig pw used lost lim) laid gone thr m1 m2 e1 e2 mi1 mi2 na1 na2 fa1 fa2 lets rlen rlaid rgone rthr were none_ beyo aN bN fN lN_ rN pN twos at_ rdig rpow good txt wri ra rb rfive rleft rright rpart) := hD
        refine q_GV (D := D) (A := A) (C := R_Md) (b := adM 0) (As := [.long ((((xs (7 * i + 1)).toInt64) <<< (((32 : Int32)).toInt64 &&& 63)) ||| (((xs (7 * i + 2)).toInt64) &&& (4294967295 : Int64))), .long ((((xs (7 * i + 3)).toInt64) <<< (((32 : Int32)).toInt64 &&& 63)) ||| (((xs (7 * i + 4)).toInt64) &&& (4294967295 : Int64))), .int (xs (7 * i + 5))]) (rest := []) (n := 3) hx hb hml hown hts (c_Md_compare l D A cI cL cC adM (gC cI cL cC adC [(ao, .inl (cL, 1, .inr (.inl fo')))] len tk row dig pw used lost lim) laid gone thr m1 m2 e1 e2 mi1 mi2 na1 na2 fa1 fa2 lets rlen rlaid rgone rthr were none_ beyo aN bN fN lN_ rN pN twos at_ rdig rpow good txt wri ra rb rfive rleft rright rpart ((((xs (7 * i + 1)).toInt64) <<< (((32 : Int32)).toInt64 &&& 63)) ||| (((xs (7 * i + 2)).toInt64) &&& (4294967295 : Int64))) ((((xs (7 * i + 3)).toInt64) <<< (((32 : Int32)).toInt64 &&& 63)) ||| (((xs (7 * i + 4)).toInt64) &&& (4294967295 : Int64))) (xs (7 * i + 5)) (v, thr', m1', m2', e1', e2', mi1', mi2', na1', na2', fa1', fa2') f2) rfl rfl ml_28 ml_29 ml_30 ml_31 ml_5 (by decide +kernel) ⟨Nat.le_of_ble_eq_true rfl, Nat.le_of_ble_eq_true rfl⟩ (va_recv hK hP (ci := 4) rfl (q0 := 0) rfl) hNB hK hP hD hS rfl hl.1 rfl (Nat.le_of_ble_eq_true rfl) d_law_555 ⟨(show 18 + i + 1 ≤ 1048 by omega), (show 4521 + 6 * i + 6 ≤ 12749 by omega)⟩ (fun H locs hP hD hS => ?_)
        have hP : va_P D cls (gM cI cL cC adM (gC cI cL cC adC [(ao, .inl (cL, 1, .inr (.inl fo')))] len tk row dig pw used lost lim) laid gone thr' m1' m2' e1' e2' mi1' mi2' na1' na2' fa1' fa2' lets rlen rlaid rgone rthr were none_ beyo aN bN fN lN_ rN pN twos at_ rdig rpow good txt wri ra rb rfive rleft rright rpart) H := hP
        have hD : va_D A (gM cI cL cC adM (gC cI cL cC adC [(ao, .inl (cL, 1, .inr (.inl fo')))] len tk row dig pw used lost lim) laid gone thr' m1' m2' e1' e2' mi1' mi2' na1' na2' fa1' fa2' lets rlen rlaid rgone rthr were none_ beyo aN bN fN lN_ rN pN twos at_ rdig rpow good txt wri ra rb rfive rleft rright rpart) := hD
        refine lv_istore hx hb d_law_558 hl (by decide) rfl (fun ls hl => ?_)
        have hl : lv_has ls 8 [(6, .int v), (5, .int kr), (4, .int (nI (7 * i))), (0, .ref b), (1, .ref (adC 0)), (2, .ref (adM 0)), (3, .ref ao)] := hl
        refine lv_aload_n hx hb d_law_560 rfl (lv_at hl 5 rfl) ?_
        refine q_GV (D := D) (A := A) (C := R_Md) (b := adM 0) (As := []) (rest := []) (n := 0) hx hb hml hown hts (c_Md_thrown l D A cI cL cC adM (gC cI cL cC adC [(ao, .inl (cL, 1, .inr (.inl fo')))] len tk row dig pw used lost lim) laid gone thr' m1' m2' e1' e2' mi1' mi2' na1' na2' fa1' fa2' lets rlen rlaid rgone rthr were none_ beyo aN bN fN lN_ rN pN twos at_ rdig rpow good txt wri ra rb rfive rleft rright rpart thr' rfl) rfl rfl ml_6 ml_7 ml_8 ml_9 ml_5 (by decide +kernel) ⟨Nat.le_of_ble_eq_true rfl, Nat.le_of_ble_eq_true rfl⟩ (va_recv hK hP (ci := 4) rfl (q0 := 0) rfl) hNB hK hP hD hS rfl hl.1 rfl (Nat.le_of_ble_eq_true rfl) d_law_561 ⟨(show 18 + i + 1 ≤ 1048 by omega), (show 4521 + 6 * i + 6 ≤ 12749 by omega)⟩ (fun H locs hP hD hS => ?_)
        have hP : va_P D cls (gM cI cL cC adM (gC cI cL cC adC [(ao, .inl (cL, 1, .inr (.inl fo')))] len tk row dig pw used lost lim) laid gone thr' m1' m2' e1' e2' mi1' mi2' na1' na2' fa1' fa2' lets rlen rlaid rgone rthr were none_ beyo aN bN fN lN_ rN pN twos at_ rdig rpow good txt wri ra rb rfive rleft rright rpart) H := hP
        have hD : va_D A (gM cI cL cC adM (gC cI cL cC adC [(ao, .inl (cL, 1, .inr (.inl fo')))] len tk row dig pw used lost lim) laid gone thr' m1' m2' e1' e2' mi1' mi2' na1' na2' fa1' fa2' lets rlen rlaid rgone rthr were none_ beyo aN bN fN lN_ rN pN twos at_ rdig rpow good txt wri ra rb rfive rleft rright rpart) := hD
        have hP := to_C hP
        have hD := to_Cd hD
        have hP : va_P D cls (gC cI cL cC adC ((ao, .inl (cL, 1, .inr (.inl fo'))) :: gM cI cL cC adM [] laid gone thr' m1' m2' e1' e2' mi1' mi2' na1' na2' fa1' fa2' lets rlen rlaid rgone rthr were none_ beyo aN bN fN lN_ rN pN twos at_ rdig rpow good txt wri ra rb rfive rleft rright rpart) len tk row dig pw used lost lim) H := hP
        have hD : va_D A (gC cI cL cC adC ((ao, .inl (cL, 1, .inr (.inl fo'))) :: gM cI cL cC adM [] laid gone thr' m1' m2' e1' e2' mi1' mi2' na1' na2' fa1' fa2' lets rlen rlaid rgone rthr were none_ beyo aN bN fN lN_ rN pN twos at_ rdig rpow good txt wri ra rb rfive rleft rright rpart) len tk row dig pw used lost lim) := hD
        refine lv_iload hx hb d_law_564 (lv_at hl 1 rfl) ?_
        refine lv_icmp_eq (tgt := 571) hx hb d_law_566 rfl (fun _ => ?_) (fun hc => absurd hkr.symm hc)
        refine lv_iload hx hb d_law_571 (lv_at hl 1 rfl) ?_
        refine lv_if_ne (tgt := 588) hx hb d_law_573 rfl (fun _ => ?_) (fun hc => ?_)
        · refine lv_goto (tgt := 705) hx hb d_law_588 rfl ?_
          exact fin ls _ _ fo' len tk row dig pw used lost lim laid gone thr' m1' m2' e1' e2' mi1' mi2' na1' na2' fa1' fa2' lets rlen rlaid rgone rthr were none_ beyo aN bN fN lN_ rN pN twos at_ rdig rpow good txt wri ra rb rfive rleft rright rpart (lv_sub hl [2, 3, 4, 5, 6] rfl) hsim hP hD hS
        · refine lv_aload_n hx hb d_law_576 rfl (lv_at hl 6 rfl) ?_
          refine lv_iconst hx hb d_law_577 ic_0 ?_
          refine va_lald hx hb hK hP 6 1 rfl rfl (nI_in (c := 0) (by decide) (by decide)) d_law_578 ?_
          refine lv_iload hx hb d_law_579 (lv_at hl 0 rfl) ?_
          refine lv_i2l hx hb d_law_581 rfl ?_
          refine W.lcmp hx hb d_law_582 ?_
          refine lv_if_eq (tgt := 588) hx hb d_law_583 rfl (fun _ => ?_) (fun hc2 => absurd ((lg_cmp_eq _ _).mpr ((show _ = _ from hfo hc))) hc2)
          refine lv_goto (tgt := 705) hx hb d_law_588 rfl ?_
          exact fin ls _ _ fo' len tk row dig pw used lost lim laid gone thr' m1' m2' e1' e2' mi1' mi2' na1' na2' fa1' fa2' lets rlen rlaid rgone rthr were none_ beyo aN bN fN lN_ rN pN twos at_ rdig rpow good txt wri ra rb rfive rleft rright rpart (lv_sub hl [2, 3, 4, 5, 6] rfl) hsim hP hD hS
      refine q_HS (D := D) (A := A) (E := fun U => eE oF oD kA vA A U U.heap) (hh := [(0, 13, 16, 13)]) (As := [.ref (adC 0), .long ((((xs (7 * i + 1)).toInt64) <<< (((32 : Int32)).toInt64 &&& 63)) ||| (((xs (7 * i + 2)).toInt64) &&& (4294967295 : Int64))), .long ((((xs (7 * i + 3)).toInt64) <<< (((32 : Int32)).toInt64 &&& 63)) ||| (((xs (7 * i + 4)).toInt64) &&& (4294967295 : Int64))), .int (xs (7 * i + 5)), .ref ao]) (rest := []) (n := 5) hx hb hml hown hts (c_Lw_compare l hst D A cI cL cC adC ao (gM cI cL cC adM [] laid gone thr m1 m2 e1 e2 mi1 mi2 na1 na2 fa1 fa2 lets rlen rlaid rgone rthr were none_ beyo aN bN fN lN_ rN pN twos at_ rdig rpow good txt wri ra rb rfive rleft rright rpart) fo len tk row dig pw used lost lim oF oD kA vA 10001 ((((xs (7 * i + 1)).toInt64) <<< (((32 : Int32)).toInt64 &&& 63)) ||| (((xs (7 * i + 2)).toInt64) &&& (4294967295 : Int64))) ((((xs (7 * i + 3)).toInt64) <<< (((32 : Int32)).toInt64 &&& 63)) ||| (((xs (7 * i + 4)).toInt64) &&& (4294967295 : Int64))) (xs (7 * i + 5)) r f1) rfl rfl ml_32 ml_33 ml_34 ml_13 (by decide +kernel) ⟨Nat.le_of_ble_eq_true rfl, Nat.le_of_ble_eq_true rfl⟩ (fun U g mk a h => eE_bl U g mk a h) (fun U hU hW => eEe_of hU hW hS hE) hNB hK hP hD hS rfl hl.1 rfl (Nat.le_of_ble_eq_true rfl) d_law_499 ⟨(show 18 + i + 1 ≤ 1048 by omega), (show 4521 + 6 * i + 6 ≤ 12749 by omega)⟩ (fun ov st t locs hq h0 hS1 => ?_)
      rcases hq with ⟨k, hk, hov, hP, hD, hF⟩ | ⟨x, hx2, hov, hP, hD, hF⟩
      · cases hov
        rcases hag with ⟨k', hk2, hr, ht'⟩ | ⟨hr, -⟩
        · obtain rfl : k = k' := Sum.inl.inj (hk.symm.trans hr)
          exact cont _ fo _ _ ht'.symm (fun z => absurd z (nI_k hk2)) hP hD (hS1 hF)
        · cases hk.symm.trans hr
      · cases hov
        rcases hag with ⟨k', -, hr, -⟩ | ⟨hr, ht'⟩
        · cases hx2.symm.trans hr
        · obtain rfl : x = v := Sum.inr.inj (hx2.symm.trans hr)
          exact cont _ _ _ _ ht'.symm (fun _ => rfl) hP hD (hS1 hF)
    by_cases hc4 : ((xs (7 * i)) &&& (7 : Int32)) = (4 : Int32)
    · refine lv_tableIn (off := 551) (tgt := 591) hx hb d_law_40 (by rw [hc4]; decide) (by rw [hc4]; decide) (by rw [hc4]; rfl) rfl ?_
      refine lv_aload_n hx hb d_law_591 rfl (lv_at hl 2 rfl) ?_
      refine lv_aload_n hx hb d_law_592 rfl (lv_at hl 1 rfl) ?_
      refine lv_iload hx hb d_law_593 (lv_at hl 0 rfl) ?_
      refine lv_iconst hx hb d_law_595 ic_1 ?_
      refine lv_iadd hx hb d_law_596 ?_
      refine q_sld hx hb hX hbl hbA hS (j := 7 * i + 1) (nI_add (7 * i) 1) (by omega) hL d_law_597 ?_
      refine lv_i2l hx hb d_law_598 rfl ?_
      refine lv_bipush hx hb d_law_599 bp_32 ?_
      refine lv_lshl hx hb d_law_601 rfl ?_
      refine lv_aload_n hx hb d_law_602 rfl (lv_at hl 1 rfl) ?_
      refine lv_iload hx hb d_law_603 (lv_at hl 0 rfl) ?_
      refine lv_iconst hx hb d_law_605 ic_2 ?_
      refine lv_iadd hx hb d_law_606 ?_
      refine q_sld hx hb hX hbl hbA hS (j := 7 * i + 2) (nI_add (7 * i) 2) (by omega) hL d_law_607 ?_
      refine lv_i2l hx hb d_law_608 rfl ?_
      refine lv_ldc2 hx hb hown (hT _ ml_0) d_law_609 ?_
      refine lv_land hx hb d_law_612 ?_
      refine lv_lor hx hb d_law_613 ?_
      refine lv_aload_n hx hb d_law_614 rfl (lv_at hl 1 rfl) ?_
      refine lv_iload hx hb d_law_615 (lv_at hl 0 rfl) ?_
      refine lv_iconst hx hb d_law_617 ic_3 ?_
      refine lv_iadd hx hb d_law_618 ?_
      refine q_sld hx hb hX hbl hbA hS (j := 7 * i + 3) (nI_add (7 * i) 3) (by omega) hL d_law_619 ?_
      refine lv_aload_n hx hb d_law_620 rfl (lv_at hl 4 rfl) ?_
      by_cases hbad : (xs (7 * i + 3)) < 1 ∨ ¬ (xs (7 * i + 3)) ≤ 6
      · refine q_HS (D := D) (A := A) (E := fun U => eE oF oD kA vA A U U.heap) (hh := [(0, 11, 14, 13)]) (As := [.ref (adC 0), .long ((((xs (7 * i + 1)).toInt64) <<< (((32 : Int32)).toInt64 &&& 63)) ||| (((xs (7 * i + 2)).toInt64) &&& (4294967295 : Int64))), .int (xs (7 * i + 3)), .ref ao]) (rest := []) (n := 4) hx hb hml hown hts (c_Lw_text_bad l hst D A cI cL cC adC ao (gM cI cL cC adM [] laid gone thr m1 m2 e1 e2 mi1 mi2 na1 na2 fa1 fa2 lets rlen rlaid rgone rthr were none_ beyo aN bN fN lN_ rN pN twos at_ rdig rpow good txt wri ra rb rfive rleft rright rpart) fo len tk row dig pw used lost lim oF oD kA vA 10001 ((((xs (7 * i + 1)).toInt64) <<< (((32 : Int32)).toInt64 &&& 63)) ||| (((xs (7 * i + 2)).toInt64) &&& (4294967295 : Int64))) (xs (7 * i + 3)) (.inl 1) (textX_bad hbad)) rfl rfl ml_35 ml_36 ml_37 ml_13 (by decide +kernel) ⟨Nat.le_of_ble_eq_true rfl, Nat.le_of_ble_eq_true rfl⟩ (fun U g mk a h => eE_bl U g mk a h) (fun U hU hW => eEe_of hU hW hS hE) hNB hK hP hD hS rfl hl.1 rfl (Nat.le_of_ble_eq_true rfl) d_law_621 ⟨(show 18 + i + 1 ≤ 1048 by omega), (show 4521 + 6 * i + 6 ≤ 12749 by omega)⟩ (fun ov st t locs hq h0 hS1 => ?_)
        rcases hq with ⟨k, hk, hov, hP, hD, hF⟩ | ⟨x, hx2, -⟩
        · cases hov
          obtain rfl : 1 = k := Sum.inl.inj hk
          have hS := hS1 hF
          generalize t.heap = H at hP hS ⊢
          have hP : va_P D cls (gC cI cL cC adC ((ao, .inl (cL, 1, .inr (.inl fo))) :: gM cI cL cC adM [] laid gone thr m1 m2 e1 e2 mi1 mi2 na1 na2 fa1 fa2 lets rlen rlaid rgone rthr were none_ beyo aN bN fN lN_ rN pN twos at_ rdig rpow good txt wri ra rb rfive rleft rright rpart) len tk row dig pw used lost lim) H := hP
          have hD : va_D A (gC cI cL cC adC ((ao, .inl (cL, 1, .inr (.inl fo))) :: gM cI cL cC adM [] laid gone thr m1 m2 e1 e2 mi1 mi2 na1 na2 fa1 fa2 lets rlen rlaid rgone rthr were none_ beyo aN bN fN lN_ rN pN twos at_ rdig rpow good txt wri ra rb rfive rleft rright rpart) len tk row dig pw used lost lim) := hD
          refine lv_istore hx hb d_law_624 hl (by decide) rfl (fun ls hl => ?_)
          have hl : lv_has ls 8 [(5, .int (nI 1)), (4, .int (nI (7 * i))), (0, .ref b), (1, .ref (adC 0)), (2, .ref (adM 0)), (3, .ref ao)] := hl
          refine lv_aload_n hx hb d_law_626 rfl (lv_at hl 4 rfl) ?_
          refine lv_aload_n hx hb d_law_627 rfl (lv_at hl 2 rfl) ?_
          refine lv_iload hx hb d_law_628 (lv_at hl 1 rfl) ?_
          refine lv_iconst hx hb d_law_630 ic_1 ?_
          refine lv_iadd hx hb d_law_631 ?_
          refine q_sld hx hb hX hbl hbA hS (j := 7 * i + 1) (nI_add (7 * i) 1) (by omega) hL d_law_632 ?_
          refine lv_i2l hx hb d_law_633 rfl ?_
          refine lv_bipush hx hb d_law_634 bp_32 ?_
          refine lv_lshl hx hb d_law_636 rfl ?_
          refine lv_aload_n hx hb d_law_637 rfl (lv_at hl 2 rfl) ?_
          refine lv_iload hx hb d_law_638 (lv_at hl 1 rfl) ?_
          refine lv_iconst hx hb d_law_640 ic_2 ?_
          refine lv_iadd hx hb d_law_641 ?_
          refine q_sld hx hb hX hbl hbA hS (j := 7 * i + 2) (nI_add (7 * i) 2) (by omega) hL d_law_642 ?_
          refine lv_i2l hx hb d_law_643 rfl ?_
          refine lv_ldc2 hx hb hown (hT _ ml_0) d_law_644 ?_
          refine lv_land hx hb d_law_647 ?_
          refine lv_lor hx hb d_law_648 ?_
          refine lv_aload_n hx hb d_law_649 rfl (lv_at hl 2 rfl) ?_
          refine lv_iload hx hb d_law_650 (lv_at hl 1 rfl) ?_
          refine lv_iconst hx hb d_law_652 ic_3 ?_
          refine lv_iadd hx hb d_law_653 ?_
          refine q_sld hx hb hX hbl hbA hS (j := 7 * i + 3) (nI_add (7 * i) 3) (by omega) hL d_law_654 ?_
          have hP := to_M hP
          have hD := to_Md hD
          have hP : va_P D cls (gM cI cL cC adM (gC cI cL cC adC [(ao, .inl (cL, 1, .inr (.inl fo)))] len tk row dig pw used lost lim) laid gone thr m1 m2 e1 e2 mi1 mi2 na1 na2 fa1 fa2 lets rlen rlaid rgone rthr were none_ beyo aN bN fN lN_ rN pN twos at_ rdig rpow good txt wri ra rb rfive rleft rright rpart) H := hP
          have hD : va_D A (gM cI cL cC adM (gC cI cL cC adC [(ao, .inl (cL, 1, .inr (.inl fo)))] len tk row dig pw used lost lim) laid gone thr m1 m2 e1 e2 mi1 mi2 na1 na2 fa1 fa2 lets rlen rlaid rgone rthr were none_ beyo aN bN fN lN_ rN pN twos at_ rdig rpow good txt wri ra rb rfive rleft rright rpart) := hD
          refine q_GV (D := D) (A := A) (C := R_Md) (b := adM 0) (As := [.long ((((xs (7 * i + 1)).toInt64) <<< (((32 : Int32)).toInt64 &&& 63)) ||| (((xs (7 * i + 2)).toInt64) &&& (4294967295 : Int64))), .int (xs (7 * i + 3))]) (rest := []) (n := 2) hx hb hml hown hts (c_Md_text l D A cI cL cC adM (gC cI cL cC adC [(ao, .inl (cL, 1, .inr (.inl fo)))] len tk row dig pw used lost lim) laid gone thr m1 m2 e1 e2 mi1 mi2 na1 na2 fa1 fa2 lets rlen rlaid rgone rthr were none_ beyo aN bN fN lN_ rN pN twos at_ rdig rpow good txt wri ra rb rfive rleft rright rpart 10001 ((((xs (7 * i + 1)).toInt64) <<< (((32 : Int32)).toInt64 &&& 63)) ||| (((xs (7 * i + 2)).toInt64) &&& (4294967295 : Int64))) (xs (7 * i + 3)) ((0 : Int32), laid, gone, (1 : Int32), lets, rlaid, rgone, rthr, aN, bN, fN, lN_, rN, twos, rpow, wri, ra, rb, rfive, rleft, rright) (t_text_bad hbad ((((xs (7 * i + 1)).toInt64) <<< (((32 : Int32)).toInt64 &&& 63)) ||| (((xs (7 * i + 2)).toInt64) &&& (4294967295 : Int64))) 10001 laid gone thr lets rlaid rgone rthr aN bN fN lN_ rN twos rpow wri ra rb rfive rleft rright)) rfl rfl ml_38 ml_39 ml_40 ml_41 ml_5 (by decide +kernel) ⟨Nat.le_of_ble_eq_true rfl, Nat.le_of_ble_eq_true rfl⟩ (va_recv hK hP (ci := 4) rfl (q0 := 0) rfl) hNB hK hP hD hS rfl hl.1 rfl (Nat.le_of_ble_eq_true rfl) d_law_655 ⟨(show 18 + i + 1 ≤ 1048 by omega), (show 4521 + 6 * i + 6 ≤ 12749 by omega)⟩ (fun H locs hP hD hS => ?_)
          have hP : va_P D cls (gM cI cL cC adM (gC cI cL cC adC [(ao, .inl (cL, 1, .inr (.inl fo)))] len tk row dig pw used lost lim) laid gone (1 : Int32) m1 m2 e1 e2 mi1 mi2 na1 na2 fa1 fa2 lets rlen rlaid rgone rthr were none_ beyo aN bN fN lN_ rN pN twos at_ rdig rpow good txt wri ra rb rfive rleft rright rpart) H := hP
          have hD : va_D A (gM cI cL cC adM (gC cI cL cC adC [(ao, .inl (cL, 1, .inr (.inl fo)))] len tk row dig pw used lost lim) laid gone (1 : Int32) m1 m2 e1 e2 mi1 mi2 na1 na2 fa1 fa2 lets rlen rlaid rgone rthr were none_ beyo aN bN fN lN_ rN pN twos at_ rdig rpow good txt wri ra rb rfive rleft rright rpart) := hD
          refine lv_istore hx hb d_law_658 hl (by decide) rfl (fun ls hl => ?_)
          have hl : lv_has ls 8 [(6, .int (0 : Int32)), (5, .int (nI 1)), (4, .int (nI (7 * i))), (0, .ref b), (1, .ref (adC 0)), (2, .ref (adM 0)), (3, .ref ao)] := hl
          refine lv_aload_n hx hb d_law_660 rfl (lv_at hl 5 rfl) ?_
          refine q_GV (D := D) (A := A) (C := R_Md) (b := adM 0) (As := []) (rest := []) (n := 0) hx hb hml hown hts (c_Md_thrown l D A cI cL cC adM (gC cI cL cC adC [(ao, .inl (cL, 1, .inr (.inl fo)))] len tk row dig pw used lost lim) laid gone (1 : Int32) m1 m2 e1 e2 mi1 mi2 na1 na2 fa1 fa2 lets rlen rlaid rgone rthr were none_ beyo aN bN fN lN_ rN pN twos at_ rdig rpow good txt wri ra rb rfive rleft rright rpart (1 : Int32) rfl) rfl rfl ml_6 ml_7 ml_8 ml_9 ml_5 (by decide +kernel) ⟨Nat.le_of_ble_eq_true rfl, Nat.le_of_ble_eq_true rfl⟩ (va_recv hK hP (ci := 4) rfl (q0 := 0) rfl) hNB hK hP hD hS rfl hl.1 rfl (Nat.le_of_ble_eq_true rfl) d_law_661 ⟨(show 18 + i + 1 ≤ 1048 by omega), (show 4521 + 6 * i + 6 ≤ 12749 by omega)⟩ (fun H locs hP hD hS => ?_)
          have hP : va_P D cls (gM cI cL cC adM (gC cI cL cC adC [(ao, .inl (cL, 1, .inr (.inl fo)))] len tk row dig pw used lost lim) laid gone (1 : Int32) m1 m2 e1 e2 mi1 mi2 na1 na2 fa1 fa2 lets rlen rlaid rgone rthr were none_ beyo aN bN fN lN_ rN pN twos at_ rdig rpow good txt wri ra rb rfive rleft rright rpart) H := hP
          have hD : va_D A (gM cI cL cC adM (gC cI cL cC adC [(ao, .inl (cL, 1, .inr (.inl fo)))] len tk row dig pw used lost lim) laid gone (1 : Int32) m1 m2 e1 e2 mi1 mi2 na1 na2 fa1 fa2 lets rlen rlaid rgone rthr were none_ beyo aN bN fN lN_ rN pN twos at_ rdig rpow good txt wri ra rb rfive rleft rright rpart) := hD
          have hP := to_C hP
          have hD := to_Cd hD
          have hP : va_P D cls (gC cI cL cC adC ((ao, .inl (cL, 1, .inr (.inl fo))) :: gM cI cL cC adM [] laid gone (1 : Int32) m1 m2 e1 e2 mi1 mi2 na1 na2 fa1 fa2 lets rlen rlaid rgone rthr were none_ beyo aN bN fN lN_ rN pN twos at_ rdig rpow good txt wri ra rb rfive rleft rright rpart) len tk row dig pw used lost lim) H := hP
          have hD : va_D A (gC cI cL cC adC ((ao, .inl (cL, 1, .inr (.inl fo))) :: gM cI cL cC adM [] laid gone (1 : Int32) m1 m2 e1 e2 mi1 mi2 na1 na2 fa1 fa2 lets rlen rlaid rgone rthr were none_ beyo aN bN fN lN_ rN pN twos at_ rdig rpow good txt wri ra rb rfive rleft rright rpart) len tk row dig pw used lost lim) := hD
          refine lv_iload hx hb d_law_664 (lv_at hl 1 rfl) ?_
          refine lv_icmp_eq (tgt := 671) hx hb d_law_666 rfl (fun _ => ?_) (fun hc => absurd (show (1 : Int32) = nI 1 from rfl) hc)
          refine lv_iload hx hb d_law_671 (lv_at hl 1 rfl) ?_
          refine lv_if_ne (tgt := 688) hx hb d_law_673 rfl (fun _ => ?_) (fun hc => ?_)
          · refine lv_goto (tgt := 705) hx hb d_law_688 rfl ?_
            exact fin ls _ _ fo len tk row dig pw used lost lim laid gone (1 : Int32) m1 m2 e1 e2 mi1 mi2 na1 na2 fa1 fa2 lets rlen rlaid rgone rthr were none_ beyo aN bN fN lN_ rN pN twos at_ rdig rpow good txt wri ra rb rfive rleft rright rpart (lv_sub hl [2, 3, 4, 5, 6] rfl) hsim hP hD hS
          · refine lv_aload_n hx hb d_law_676 rfl (lv_at hl 6 rfl) ?_
            refine lv_iconst hx hb d_law_677 ic_0 ?_
            refine va_lald hx hb hK hP 6 1 rfl rfl (nI_in (c := 0) (by decide) (by decide)) d_law_678 ?_
            refine lv_iload hx hb d_law_679 (lv_at hl 0 rfl) ?_
            refine lv_i2l hx hb d_law_681 rfl ?_
            refine W.lcmp hx hb d_law_682 ?_
            refine lv_if_eq (tgt := 688) hx hb d_law_683 rfl (fun _ => ?_) (fun hc2 => absurd ((lg_cmp_eq _ _).mpr ((absurd hc (by decide)))) hc2)
            refine lv_goto (tgt := 705) hx hb d_law_688 rfl ?_
            exact fin ls _ _ fo len tk row dig pw used lost lim laid gone (1 : Int32) m1 m2 e1 e2 mi1 mi2 na1 na2 fa1 fa2 lets rlen rlaid rgone rthr were none_ beyo aN bN fN lN_ rN pN twos at_ rdig rpow good txt wri ra rb rfive rleft rright rpart (lv_sub hl [2, 3, 4, 5, 6] rfl) hsim hP hD hS
        · cases hx2
      · have hb1 : ¬ (xs (7 * i + 3)) < 1 := fun z => hbad (Or.inl z)
        have hb2 : (xs (7 * i + 3)) ≤ 6 := Decidable.not_not.mp (fun z => hbad (Or.inr z))
        obtain ⟨ans, tk', row', dig', pw', used', lost', lim', lets', rlaid', rgone', rthr', aN', bN', fN', lN_', rN', twos', rpow', wri', ra', rb', rfive', rleft', rright', f1, f2, hsim'⟩ := t_text hb1 hb2 ((((xs (7 * i + 1)).toInt64) <<< (((32 : Int32)).toInt64 &&& 63)) ||| (((xs (7 * i + 2)).toInt64) &&& (4294967295 : Int64))) (n := 10001) (by decide) len tk row dig pw used lost lim laid gone thr lets rlaid rgone rthr aN bN fN lN_ rN twos rpow wri ra rb rfive rleft rright
        refine q_HS (D := D) (A := A) (E := fun U => eE oF oD kA vA A U U.heap) (hh := [(0, 11, 14, 13)]) (As := [.ref (adC 0), .long ((((xs (7 * i + 1)).toInt64) <<< (((32 : Int32)).toInt64 &&& 63)) ||| (((xs (7 * i + 2)).toInt64) &&& (4294967295 : Int64))), .int (xs (7 * i + 3)), .ref ao]) (rest := []) (n := 4) hx hb hml hown hts (c_Lw_text_ok l hst D A cI cL cC adC ao (gM cI cL cC adM [] laid gone thr m1 m2 e1 e2 mi1 mi2 na1 na2 fa1 fa2 lets rlen rlaid rgone rthr were none_ beyo aN bN fN lN_ rN pN twos at_ rdig rpow good txt wri ra rb rfive rleft rright rpart) fo len tk row dig pw used lost lim oF oD kA vA 10001 ((((xs (7 * i + 1)).toInt64) <<< (((32 : Int32)).toInt64 &&& 63)) ||| (((xs (7 * i + 2)).toInt64) &&& (4294967295 : Int64))) (xs (7 * i + 3)) (ans, ans, tk', row', dig', pw', used', lost', lim') f1) rfl rfl ml_35 ml_36 ml_37 ml_13 (by decide +kernel) ⟨Nat.le_of_ble_eq_true rfl, Nat.le_of_ble_eq_true rfl⟩ (fun U g mk a h => eE_bl U g mk a h) (fun U hU hW => eEe_of hU hW hS hE) hNB hK hP hD hS rfl hl.1 rfl (Nat.le_of_ble_eq_true rfl) d_law_621 ⟨(show 18 + i + 1 ≤ 1048 by omega), (show 4521 + 6 * i + 6 ≤ 12749 by omega)⟩ (fun ov st t locs hq h0 hS1 => ?_)
        obtain ⟨hov, hP, hD, hF⟩ := hq
        cases hov
        have hS := hS1 hF
        generalize t.heap = H at hP hS ⊢
        have hP : va_P D cls (gC cI cL cC adC ((ao, .inl (cL, 1, .inr (.inl (vp_updL fo 0 ans.toInt64)))) :: gM cI cL cC adM [] laid gone thr m1 m2 e1 e2 mi1 mi2 na1 na2 fa1 fa2 lets rlen rlaid rgone rthr were none_ beyo aN bN fN lN_ rN pN twos at_ rdig rpow good txt wri ra rb rfive rleft rright rpart) ans tk' row' dig' pw' used' lost' lim') H := hP
        have hD : va_D A (gC cI cL cC adC ((ao, .inl (cL, 1, .inr (.inl (vp_updL fo 0 ans.toInt64)))) :: gM cI cL cC adM [] laid gone thr m1 m2 e1 e2 mi1 mi2 na1 na2 fa1 fa2 lets rlen rlaid rgone rthr were none_ beyo aN bN fN lN_ rN pN twos at_ rdig rpow good txt wri ra rb rfive rleft rright rpart) ans tk' row' dig' pw' used' lost' lim') := hD
        refine lv_istore hx hb d_law_624 hl (by decide) rfl (fun ls hl => ?_)
        have hl : lv_has ls 8 [(5, .int (0 : Int32)), (4, .int (nI (7 * i))), (0, .ref b), (1, .ref (adC 0)), (2, .ref (adM 0)), (3, .ref ao)] := hl
        refine lv_aload_n hx hb d_law_626 rfl (lv_at hl 4 rfl) ?_
        refine lv_aload_n hx hb d_law_627 rfl (lv_at hl 2 rfl) ?_
        refine lv_iload hx hb d_law_628 (lv_at hl 1 rfl) ?_
        refine lv_iconst hx hb d_law_630 ic_1 ?_
        refine lv_iadd hx hb d_law_631 ?_
        refine q_sld hx hb hX hbl hbA hS (j := 7 * i + 1) (nI_add (7 * i) 1) (by omega) hL d_law_632 ?_
        refine lv_i2l hx hb d_law_633 rfl ?_
        refine lv_bipush hx hb d_law_634 bp_32 ?_
        refine lv_lshl hx hb d_law_636 rfl ?_
        refine lv_aload_n hx hb d_law_637 rfl (lv_at hl 2 rfl) ?_
        refine lv_iload hx hb d_law_638 (lv_at hl 1 rfl) ?_
        refine lv_iconst hx hb d_law_640 ic_2 ?_
        refine lv_iadd hx hb d_law_641 ?_
        refine q_sld hx hb hX hbl hbA hS (j := 7 * i + 2) (nI_add (7 * i) 2) (by omega) hL d_law_642 ?_
        refine lv_i2l hx hb d_law_643 rfl ?_
        refine lv_ldc2 hx hb hown (hT _ ml_0) d_law_644 ?_
        refine lv_land hx hb d_law_647 ?_
        refine lv_lor hx hb d_law_648 ?_
        refine lv_aload_n hx hb d_law_649 rfl (lv_at hl 2 rfl) ?_
        refine lv_iload hx hb d_law_650 (lv_at hl 1 rfl) ?_
        refine lv_iconst hx hb d_law_652 ic_3 ?_
        refine lv_iadd hx hb d_law_653 ?_
        refine q_sld hx hb hX hbl hbA hS (j := 7 * i + 3) (nI_add (7 * i) 3) (by omega) hL d_law_654 ?_
        have hP := to_M hP
        have hD := to_Md hD
        have hP : va_P D cls (gM cI cL cC adM (gC cI cL cC adC [(ao, .inl (cL, 1, .inr (.inl (vp_updL fo 0 ans.toInt64))))] ans tk' row' dig' pw' used' lost' lim') laid gone thr m1 m2 e1 e2 mi1 mi2 na1 na2 fa1 fa2 lets rlen rlaid rgone rthr were none_ beyo aN bN fN lN_ rN pN twos at_ rdig rpow good txt wri ra rb rfive rleft rright rpart) H := hP
        have hD : va_D A (gM cI cL cC adM (gC cI cL cC adC [(ao, .inl (cL, 1, .inr (.inl (vp_updL fo 0 ans.toInt64))))] ans tk' row' dig' pw' used' lost' lim') laid gone thr m1 m2 e1 e2 mi1 mi2 na1 na2 fa1 fa2 lets rlen rlaid rgone rthr were none_ beyo aN bN fN lN_ rN pN twos at_ rdig rpow good txt wri ra rb rfive rleft rright rpart) := hD
        refine q_GV (D := D) (A := A) (C := R_Md) (b := adM 0) (As := [.long ((((xs (7 * i + 1)).toInt64) <<< (((32 : Int32)).toInt64 &&& 63)) ||| (((xs (7 * i + 2)).toInt64) &&& (4294967295 : Int64))), .int (xs (7 * i + 3))]) (rest := []) (n := 2) hx hb hml hown hts (c_Md_text l D A cI cL cC adM (gC cI cL cC adC [(ao, .inl (cL, 1, .inr (.inl (vp_updL fo 0 ans.toInt64))))] ans tk' row' dig' pw' used' lost' lim') laid gone thr m1 m2 e1 e2 mi1 mi2 na1 na2 fa1 fa2 lets rlen rlaid rgone rthr were none_ beyo aN bN fN lN_ rN pN twos at_ rdig rpow good txt wri ra rb rfive rleft rright rpart 10001 ((((xs (7 * i + 1)).toInt64) <<< (((32 : Int32)).toInt64 &&& 63)) ||| (((xs (7 * i + 2)).toInt64) &&& (4294967295 : Int64))) (xs (7 * i + 3)) (ans, ans, (0 : Int32), (0 : Int32), lets', rlaid', rgone', rthr', aN', bN', fN', lN_', rN', twos', rpow', wri', ra', rb', rfive', rleft', rright') f2) rfl rfl ml_38 ml_39 ml_40 ml_41 ml_5 (by decide +kernel) ⟨Nat.le_of_ble_eq_true rfl, Nat.le_of_ble_eq_true rfl⟩ (va_recv hK hP (ci := 4) rfl (q0 := 0) rfl) hNB hK hP hD hS rfl hl.1 rfl (Nat.le_of_ble_eq_true rfl) d_law_655 ⟨(show 18 + i + 1 ≤ 1048 by omega), (show 4521 + 6 * i + 6 ≤ 12749 by omega)⟩ (fun H locs hP hD hS => ?_)
        have hP : va_P D cls (gM cI cL cC adM (gC cI cL cC adC [(ao, .inl (cL, 1, .inr (.inl (vp_updL fo 0 ans.toInt64))))] ans tk' row' dig' pw' used' lost' lim') ans (0 : Int32) (0 : Int32) m1 m2 e1 e2 mi1 mi2 na1 na2 fa1 fa2 lets' rlen rlaid' rgone' rthr' were none_ beyo aN' bN' fN' lN_' rN' pN twos' at_ rdig rpow' good txt wri' ra' rb' rfive' rleft' rright' rpart) H := hP
        have hD : va_D A (gM cI cL cC adM (gC cI cL cC adC [(ao, .inl (cL, 1, .inr (.inl (vp_updL fo 0 ans.toInt64))))] ans tk' row' dig' pw' used' lost' lim') ans (0 : Int32) (0 : Int32) m1 m2 e1 e2 mi1 mi2 na1 na2 fa1 fa2 lets' rlen rlaid' rgone' rthr' were none_ beyo aN' bN' fN' lN_' rN' pN twos' at_ rdig rpow' good txt wri' ra' rb' rfive' rleft' rright' rpart) := hD
        refine lv_istore hx hb d_law_658 hl (by decide) rfl (fun ls hl => ?_)
        have hl : lv_has ls 8 [(6, .int ans), (5, .int (0 : Int32)), (4, .int (nI (7 * i))), (0, .ref b), (1, .ref (adC 0)), (2, .ref (adM 0)), (3, .ref ao)] := hl
        refine lv_aload_n hx hb d_law_660 rfl (lv_at hl 5 rfl) ?_
        refine q_GV (D := D) (A := A) (C := R_Md) (b := adM 0) (As := []) (rest := []) (n := 0) hx hb hml hown hts (c_Md_thrown l D A cI cL cC adM (gC cI cL cC adC [(ao, .inl (cL, 1, .inr (.inl (vp_updL fo 0 ans.toInt64))))] ans tk' row' dig' pw' used' lost' lim') ans (0 : Int32) (0 : Int32) m1 m2 e1 e2 mi1 mi2 na1 na2 fa1 fa2 lets' rlen rlaid' rgone' rthr' were none_ beyo aN' bN' fN' lN_' rN' pN twos' at_ rdig rpow' good txt wri' ra' rb' rfive' rleft' rright' rpart (0 : Int32) rfl) rfl rfl ml_6 ml_7 ml_8 ml_9 ml_5 (by decide +kernel) ⟨Nat.le_of_ble_eq_true rfl, Nat.le_of_ble_eq_true rfl⟩ (va_recv hK hP (ci := 4) rfl (q0 := 0) rfl) hNB hK hP hD hS rfl hl.1 rfl (Nat.le_of_ble_eq_true rfl) d_law_661 ⟨(show 18 + i + 1 ≤ 1048 by omega), (show 4521 + 6 * i + 6 ≤ 12749 by omega)⟩ (fun H locs hP hD hS => ?_)
        have hP : va_P D cls (gM cI cL cC adM (gC cI cL cC adC [(ao, .inl (cL, 1, .inr (.inl (vp_updL fo 0 ans.toInt64))))] ans tk' row' dig' pw' used' lost' lim') ans (0 : Int32) (0 : Int32) m1 m2 e1 e2 mi1 mi2 na1 na2 fa1 fa2 lets' rlen rlaid' rgone' rthr' were none_ beyo aN' bN' fN' lN_' rN' pN twos' at_ rdig rpow' good txt wri' ra' rb' rfive' rleft' rright' rpart) H := hP
        have hD : va_D A (gM cI cL cC adM (gC cI cL cC adC [(ao, .inl (cL, 1, .inr (.inl (vp_updL fo 0 ans.toInt64))))] ans tk' row' dig' pw' used' lost' lim') ans (0 : Int32) (0 : Int32) m1 m2 e1 e2 mi1 mi2 na1 na2 fa1 fa2 lets' rlen rlaid' rgone' rthr' were none_ beyo aN' bN' fN' lN_' rN' pN twos' at_ rdig rpow' good txt wri' ra' rb' rfive' rleft' rright' rpart) := hD
        have hP := to_C hP
        have hD := to_Cd hD
        have hP : va_P D cls (gC cI cL cC adC ((ao, .inl (cL, 1, .inr (.inl (vp_updL fo 0 ans.toInt64)))) :: gM cI cL cC adM [] ans (0 : Int32) (0 : Int32) m1 m2 e1 e2 mi1 mi2 na1 na2 fa1 fa2 lets' rlen rlaid' rgone' rthr' were none_ beyo aN' bN' fN' lN_' rN' pN twos' at_ rdig rpow' good txt wri' ra' rb' rfive' rleft' rright' rpart) ans tk' row' dig' pw' used' lost' lim') H := hP
        have hD : va_D A (gC cI cL cC adC ((ao, .inl (cL, 1, .inr (.inl (vp_updL fo 0 ans.toInt64)))) :: gM cI cL cC adM [] ans (0 : Int32) (0 : Int32) m1 m2 e1 e2 mi1 mi2 na1 na2 fa1 fa2 lets' rlen rlaid' rgone' rthr' were none_ beyo aN' bN' fN' lN_' rN' pN twos' at_ rdig rpow' good txt wri' ra' rb' rfive' rleft' rright' rpart) ans tk' row' dig' pw' used' lost' lim') := hD
        refine lv_iload hx hb d_law_664 (lv_at hl 1 rfl) ?_
        refine lv_icmp_eq (tgt := 671) hx hb d_law_666 rfl (fun _ => ?_) (fun hc => absurd (show (0 : Int32) = 0 from rfl) hc)
        refine lv_iload hx hb d_law_671 (lv_at hl 1 rfl) ?_
        refine lv_if_ne (tgt := 688) hx hb d_law_673 rfl (fun _ => ?_) (fun hc => ?_)
        · refine lv_goto (tgt := 705) hx hb d_law_688 rfl ?_
          exact fin ls _ _ (vp_updL fo 0 ans.toInt64) ans tk' row' dig' pw' used' lost' lim' ans (0 : Int32) (0 : Int32) m1 m2 e1 e2 mi1 mi2 na1 na2 fa1 fa2 lets' rlen rlaid' rgone' rthr' were none_ beyo aN' bN' fN' lN_' rN' pN twos' at_ rdig rpow' good txt wri' ra' rb' rfive' rleft' rright' rpart (lv_sub hl [2, 3, 4, 5, 6] rfl) hsim' hP hD hS
        · refine lv_aload_n hx hb d_law_676 rfl (lv_at hl 6 rfl) ?_
          refine lv_iconst hx hb d_law_677 ic_0 ?_
          refine va_lald hx hb hK hP 6 1 rfl rfl (nI_in (c := 0) (by decide) (by decide)) d_law_678 ?_
          refine lv_iload hx hb d_law_679 (lv_at hl 0 rfl) ?_
          refine lv_i2l hx hb d_law_681 rfl ?_
          refine W.lcmp hx hb d_law_682 ?_
          refine lv_if_eq (tgt := 688) hx hb d_law_683 rfl (fun _ => ?_) (fun hc2 => absurd ((lg_cmp_eq _ _).mpr ((show vp_updL fo 0 ans.toInt64 0 = _ from pk_uLs))) hc2)
          refine lv_goto (tgt := 705) hx hb d_law_688 rfl ?_
          exact fin ls _ _ (vp_updL fo 0 ans.toInt64) ans tk' row' dig' pw' used' lost' lim' ans (0 : Int32) (0 : Int32) m1 m2 e1 e2 mi1 mi2 na1 na2 fa1 fa2 lets' rlen rlaid' rgone' rthr' were none_ beyo aN' bN' fN' lN_' rN' pN twos' at_ rdig rpow' good txt wri' ra' rb' rfive' rleft' rright' rpart (lv_sub hl [2, 3, 4, 5, 6] rfl) hsim' hP hD hS
    by_cases hc5 : ((xs (7 * i)) &&& (7 : Int32)) = (5 : Int32)
    · refine lv_tableIn (off := 651) (tgt := 691) hx hb d_law_40 (by rw [hc5]; decide) (by rw [hc5]; decide) (by rw [hc5]; rfl) rfl ?_
      obtain ⟨v, tk', f1, f2, hsim'⟩ := t_take hsim thr (n := 10001) (by decide)
      refine lv_aload_n hx hb d_law_691 rfl (lv_at hl 2 rfl) ?_
      refine q_GV (D := D) (A := A) (C := R_PB) (b := adC 0) (As := []) (rest := []) (n := 0) hx hb hml hown hts (c_PB_take l D A cI cL cC adC ((ao, .inl (cL, 1, .inr (.inl fo))) :: gM cI cL cC adM [] laid gone thr m1 m2 e1 e2 mi1 mi2 na1 na2 fa1 fa2 lets rlen rlaid rgone rthr were none_ beyo aN bN fN lN_ rN pN twos at_ rdig rpow good txt wri ra rb rfive rleft rright rpart) len tk row dig pw used lost lim 10001 (v, tk') f1) rfl rfl ml_42 ml_43 ml_44 ml_45 ml_46 (by decide +kernel) ⟨Nat.le_of_ble_eq_true rfl, Nat.le_of_ble_eq_true rfl⟩ (va_recv hK hP (ci := 0) rfl (q0 := 0) rfl) hNB hK hP hD hS rfl hl.1 rfl (Nat.le_of_ble_eq_true rfl) d_law_692 ⟨(show 18 + i ≤ 1048 by omega), (show 4521 + 6 * i ≤ 12749 by omega)⟩ (fun H locs hP hD hS => ?_)
      have hP : va_P D cls (gC cI cL cC adC ((ao, .inl (cL, 1, .inr (.inl fo))) :: gM cI cL cC adM [] laid gone thr m1 m2 e1 e2 mi1 mi2 na1 na2 fa1 fa2 lets rlen rlaid rgone rthr were none_ beyo aN bN fN lN_ rN pN twos at_ rdig rpow good txt wri ra rb rfive rleft rright rpart) len tk' row dig pw used lost lim) H := hP
      have hD : va_D A (gC cI cL cC adC ((ao, .inl (cL, 1, .inr (.inl fo))) :: gM cI cL cC adM [] laid gone thr m1 m2 e1 e2 mi1 mi2 na1 na2 fa1 fa2 lets rlen rlaid rgone rthr were none_ beyo aN bN fN lN_ rN pN twos at_ rdig rpow good txt wri ra rb rfive rleft rright rpart) len tk' row dig pw used lost lim) := hD
      refine lv_aload_n hx hb d_law_695 rfl (lv_at hl 3 rfl) ?_
      have hP := to_M hP
      have hD := to_Md hD
      have hP : va_P D cls (gM cI cL cC adM (gC cI cL cC adC [(ao, .inl (cL, 1, .inr (.inl fo)))] len tk' row dig pw used lost lim) laid gone thr m1 m2 e1 e2 mi1 mi2 na1 na2 fa1 fa2 lets rlen rlaid rgone rthr were none_ beyo aN bN fN lN_ rN pN twos at_ rdig rpow good txt wri ra rb rfive rleft rright rpart) H := hP
      have hD : va_D A (gM cI cL cC adM (gC cI cL cC adC [(ao, .inl (cL, 1, .inr (.inl fo)))] len tk' row dig pw used lost lim) laid gone thr m1 m2 e1 e2 mi1 mi2 na1 na2 fa1 fa2 lets rlen rlaid rgone rthr were none_ beyo aN bN fN lN_ rN pN twos at_ rdig rpow good txt wri ra rb rfive rleft rright rpart) := hD
      refine q_GV (D := D) (A := A) (C := R_Md) (b := adM 0) (As := []) (rest := [.long v]) (n := 0) hx hb hml hown hts (c_Md_take l D A cI cL cC adM (gC cI cL cC adC [(ao, .inl (cL, 1, .inr (.inl fo)))] len tk' row dig pw used lost lim) laid gone thr m1 m2 e1 e2 mi1 mi2 na1 na2 fa1 fa2 lets rlen rlaid rgone rthr were none_ beyo aN bN fN lN_ rN pN twos at_ rdig rpow good txt wri ra rb rfive rleft rright rpart 10001 (v, tk', (0 : Int32)) f2) rfl rfl ml_47 ml_48 ml_49 ml_50 ml_5 (by decide +kernel) ⟨Nat.le_of_ble_eq_true rfl, Nat.le_of_ble_eq_true rfl⟩ (va_recv hK hP (ci := 4) rfl (q0 := 0) rfl) hNB hK hP hD hS rfl hl.1 rfl (Nat.le_of_ble_eq_true rfl) d_law_696 ⟨(show 18 + i ≤ 1048 by omega), (show 4521 + 6 * i ≤ 12749 by omega)⟩ (fun H locs hP hD hS => ?_)
      have hP : va_P D cls (gM cI cL cC adM (gC cI cL cC adC [(ao, .inl (cL, 1, .inr (.inl fo)))] len tk' row dig pw used lost lim) laid tk' (0 : Int32) m1 m2 e1 e2 mi1 mi2 na1 na2 fa1 fa2 lets rlen rlaid rgone rthr were none_ beyo aN bN fN lN_ rN pN twos at_ rdig rpow good txt wri ra rb rfive rleft rright rpart) H := hP
      have hD : va_D A (gM cI cL cC adM (gC cI cL cC adC [(ao, .inl (cL, 1, .inr (.inl fo)))] len tk' row dig pw used lost lim) laid tk' (0 : Int32) m1 m2 e1 e2 mi1 mi2 na1 na2 fa1 fa2 lets rlen rlaid rgone rthr were none_ beyo aN bN fN lN_ rN pN twos at_ rdig rpow good txt wri ra rb rfive rleft rright rpart) := hD
      have hP := to_C hP
      have hD := to_Cd hD
      have hP : va_P D cls (gC cI cL cC adC ((ao, .inl (cL, 1, .inr (.inl fo))) :: gM cI cL cC adM [] laid tk' (0 : Int32) m1 m2 e1 e2 mi1 mi2 na1 na2 fa1 fa2 lets rlen rlaid rgone rthr were none_ beyo aN bN fN lN_ rN pN twos at_ rdig rpow good txt wri ra rb rfive rleft rright rpart) len tk' row dig pw used lost lim) H := hP
      have hD : va_D A (gC cI cL cC adC ((ao, .inl (cL, 1, .inr (.inl fo))) :: gM cI cL cC adM [] laid tk' (0 : Int32) m1 m2 e1 e2 mi1 mi2 na1 na2 fa1 fa2 lets rlen rlaid rgone rthr were none_ beyo aN bN fN lN_ rN pN twos at_ rdig rpow good txt wri ra rb rfive rleft rright rpart) len tk' row dig pw used lost lim) := hD
      refine W.lcmp hx hb d_law_699 ?_
      refine lv_if_eq (tgt := 705) hx hb d_law_700 rfl (fun _ => ?_) (fun hc2 => absurd ((lg_cmp_eq _ _).mpr rfl) hc2)
      refine W.widen (k := 18 + i + 1) (n := 4521 + 6 * i + 6) (by omega) (by omega) ?_
      exact fin ls _ _ fo len tk' row dig pw used lost lim laid tk' (0 : Int32) m1 m2 e1 e2 mi1 mi2 na1 na2 fa1 fa2 lets rlen rlaid rgone rthr were none_ beyo aN bN fN lN_ rN pN twos at_ rdig rpow good txt wri ra rb rfive rleft rright rpart (lv_sub hl [0, 1, 2, 3, 4] rfl) hsim' hP hD hS
    refine lv_tableOut (tgt := 705) hx hb d_law_40 (by have n0 := lv_neT hc0 (show (0 : Int32).toInt = 0 from rfl); have n1 := lv_neT hc1 (show (1 : Int32).toInt = 1 from rfl); have n2 := lv_neT hc2 (show (2 : Int32).toInt = 2 from rfl); have n3 := lv_neT hc3 (show (3 : Int32).toInt = 3 from rfl); have n4 := lv_neT hc4 (show (4 : Int32).toInt = 4 from rfl); have n5 := lv_neT hc5 (show (5 : Int32).toInt = 5 from rfl); omega) rfl ?_
    refine W.widen (k := 18 + i + 1) (n := 4521 + 6 * i + 6) (by omega) (by omega) ?_
    exact fin ls _ _ fo len tk row dig pw used lost lim laid gone thr m1 m2 e1 e2 mi1 mi2 na1 na2 fa1 fa2 lets rlen rlaid rgone rthr were none_ beyo aN bN fN lN_ rN pN twos at_ rdig rpow good txt wri ra rb rfive rleft rright rpart (lv_sub hl [0, 1, 2, 3, 4] rfl) hsim hP hD hS
