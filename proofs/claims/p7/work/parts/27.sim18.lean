/-! THE JDK'S OWN METHODS of texts: length, charAt -/
def jyCoder : MethodName := ⟨"java/lang/String", "coder", "()B"⟩
def jyLen : MethodName := ⟨"java/lang/String", "length", "()I"⟩
def jyLatin : MethodName := ⟨"java/lang/String", "isLatin1", "()Z"⟩
def jyChr : MethodName := ⟨"java/lang/String", "charAt", "(I)C"⟩
def jyLchr : MethodName := ⟨"java/lang/StringLatin1", "charAt", "([BI)C"⟩
def jyChk : MethodName := ⟨"java/lang/String", "checkIndex", "(II)V"⟩
def jyPchk : MethodName := ⟨"jdk/internal/util/Preconditions", "checkIndex", "(IILjava/util/function/BiFunction;)I"⟩
theorem jwg (j : Nat) (h : elemW (40, j, 0, 0) = true) : jw j ∈ gw := gw_of (q := (40, j, 0, 0)) h rfl
theorem jg_0 : Cond.fieldLink "java/lang/String" 9 "java/lang/String" "value" "[B" ∈ gw := jwg 0 (by decide +kernel)
theorem jg_1 : Cond.fieldLink "java/lang/String" 15 "java/lang/String" "coder" "B" ∈ gw := jwg 1 (by decide +kernel)
theorem jg_2 : Cond.fieldLink "java/lang/String" 38 "java/lang/String" "COMPACT_STRINGS" "Z" ∈ gw := jwg 2 (by decide +kernel)
theorem jg_3 : Cond.methodLink "java/lang/String" 335 jyCoder ∈ gw := jwg 3 (by decide +kernel)
theorem jg_4 : Cond.instanceMethod jyCoder ∈ gw := jwg 4 (by decide +kernel)
theorem jg_5 : Cond.selects "java/lang/String" jyCoder jyCoder ∈ gw := jwg 5 (by decide +kernel)
theorem jg_6 : Cond.code jyCoder jcCoder 1 (some .byte) ∈ gw := jwg 6 (by decide +kernel)
theorem jg_7 : Cond.instanceMethod jyLen ∈ gw := jwg 7 (by decide +kernel)
theorem jg_8 : Cond.selects "java/lang/String" jyLen jyLen ∈ gw := jwg 8 (by decide +kernel)
theorem jg_9 : Cond.code jyLen jcLen 1 (some .int) ∈ gw := jwg 9 (by decide +kernel)
theorem jg_10 : Cond.methodLink "java/lang/String" 492 jyLatin ∈ gw := jwg 10 (by decide +kernel)
theorem jg_11 : Cond.instanceMethod jyLatin ∈ gw := jwg 11 (by decide +kernel)
theorem jg_12 : Cond.selects "java/lang/String" jyLatin jyLatin ∈ gw := jwg 12 (by decide +kernel)
theorem jg_13 : Cond.code jyLatin jcLatin 1 (some .boolean) ∈ gw := jwg 13 (by decide +kernel)
theorem jg_14 : Cond.instanceMethod jyChr ∈ gw := jwg 14 (by decide +kernel)
theorem jg_15 : Cond.selects "java/lang/String" jyChr jyChr ∈ gw := jwg 15 (by decide +kernel)
theorem jg_16 : Cond.code jyChr jcChr 2 (some .char) ∈ gw := jwg 16 (by decide +kernel)
theorem jg_17 : Cond.methodLink "java/lang/String" 495 jyLchr ∈ gw := jwg 17 (by decide +kernel)
theorem jg_18 : Cond.static jyLchr ∈ gw := jwg 18 (by decide +kernel)
theorem jg_19 : Cond.code jyLchr jcLchr 2 (some .char) ∈ gw := jwg 19 (by decide +kernel)
theorem jg_20 : Cond.methodLink "java/lang/StringLatin1" 9 jyChk ∈ gw := jwg 20 (by decide +kernel)
theorem jg_21 : Cond.static jyChk ∈ gw := jwg 21 (by decide +kernel)
theorem jg_22 : Cond.code jyChk jcChk 2 none ∈ gw := jwg 22 (by decide +kernel)
theorem jg_23 : Cond.fieldLink "java/lang/String" 1053 "jdk/internal/util/Preconditions" "SIOOBE_FORMATTER" "Ljava/util/function/BiFunction;" ∈ gw := jwg 23 (by decide +kernel)
theorem jg_24 : Cond.methodLink "java/lang/String" 1059 jyPchk ∈ gw := jwg 24 (by decide +kernel)
theorem jg_25 : Cond.static jyPchk ∈ gw := jwg 25 (by decide +kernel)
theorem jg_26 : Cond.code jyPchk jcPchk 3 (some .int) ∈ gw := jwg 26 (by decide +kernel)
theorem ji_0 : Cond.initialized "java/lang/String" ∈ gw := gw_of (q := (8, 55, 0, 0)) (by decide +kernel) rfl
theorem ji_1 : Cond.initialized "java/lang/StringLatin1" ∈ gw := gw_of (q := (8, 56, 0, 0)) (by decide +kernel) rfl
theorem ji_2 : Cond.initialized "jdk/internal/util/Preconditions" ∈ gw := gw_of (q := (8, 57, 0, 0)) (by decide +kernel) rfl
theorem jd_coder_0 : decode jcCoder 0 = .ok (.getstatic 38, 3) := by decide +kernel
theorem jd_coder_3 : decode jcCoder 3 = .ok (.ifCond .eq 10, 3) := by decide +kernel
theorem jd_coder_6 : decode jcCoder 6 = .ok (.aload_n 0, 1) := by decide +kernel
theorem jd_coder_7 : decode jcCoder 7 = .ok (.getfield 15, 3) := by decide +kernel
theorem jd_coder_10 : decode jcCoder 10 = .ok (.goto 4, 3) := by decide +kernel
theorem jd_coder_14 : decode jcCoder 14 = .ok (.ireturn, 1) := by decide +kernel
theorem jd_latin_0 : decode jcLatin 0 = .ok (.getstatic 38, 3) := by decide +kernel
theorem jd_latin_3 : decode jcLatin 3 = .ok (.ifCond .eq 14, 3) := by decide +kernel
theorem jd_latin_6 : decode jcLatin 6 = .ok (.aload_n 0, 1) := by decide +kernel
theorem jd_latin_7 : decode jcLatin 7 = .ok (.getfield 15, 3) := by decide +kernel
theorem jd_latin_10 : decode jcLatin 10 = .ok (.ifCond .ne 7, 3) := by decide +kernel
theorem jd_latin_13 : decode jcLatin 13 = .ok (.iconst 1, 1) := by decide +kernel
theorem jd_latin_14 : decode jcLatin 14 = .ok (.goto 4, 3) := by decide +kernel
theorem jd_latin_18 : decode jcLatin 18 = .ok (.ireturn, 1) := by decide +kernel
theorem jd_len_0 : decode jcLen 0 = .ok (.aload_n 0, 1) := by decide +kernel
theorem jd_len_1 : decode jcLen 1 = .ok (.getfield 9, 3) := by decide +kernel
theorem jd_len_4 : decode jcLen 4 = .ok (.arraylength, 1) := by decide +kernel
theorem jd_len_5 : decode jcLen 5 = .ok (.aload_n 0, 1) := by decide +kernel
theorem jd_len_6 : decode jcLen 6 = .ok (.invokevirtual 335, 3) := by decide +kernel
theorem jd_len_9 : decode jcLen 9 = .ok (.ishr, 1) := by decide +kernel
theorem jd_len_10 : decode jcLen 10 = .ok (.ireturn, 1) := by decide +kernel
theorem jd_pchk_0 : decode jcPchk 0 = .ok (.iload_n 0, 1) := by decide +kernel
theorem jd_pchk_1 : decode jcPchk 1 = .ok (.ifCond .lt 8, 3) := by decide +kernel
theorem jd_pchk_4 : decode jcPchk 4 = .ok (.iload_n 0, 1) := by decide +kernel
theorem jd_pchk_5 : decode jcPchk 5 = .ok (.iload_n 1, 1) := by decide +kernel
theorem jd_pchk_6 : decode jcPchk 6 = .ok (.if_icmp .lt 10, 3) := by decide +kernel
theorem jd_pchk_16 : decode jcPchk 16 = .ok (.iload_n 0, 1) := by decide +kernel
theorem jd_pchk_17 : decode jcPchk 17 = .ok (.ireturn, 1) := by decide +kernel
theorem jd_chk_0 : decode jcChk 0 = .ok (.iload_n 0, 1) := by decide +kernel
theorem jd_chk_1 : decode jcChk 1 = .ok (.iload_n 1, 1) := by decide +kernel
theorem jd_chk_2 : decode jcChk 2 = .ok (.getstatic 1053, 3) := by decide +kernel
theorem jd_chk_5 : decode jcChk 5 = .ok (.invokestatic 1059, 3) := by decide +kernel
theorem jd_chk_8 : decode jcChk 8 = .ok (.pop, 1) := by decide +kernel
theorem jd_chk_9 : decode jcChk 9 = .ok (.return_, 1) := by decide +kernel
theorem jd_lchr_0 : decode jcLchr 0 = .ok (.iload_n 1, 1) := by decide +kernel
theorem jd_lchr_1 : decode jcLchr 1 = .ok (.aload_n 0, 1) := by decide +kernel
theorem jd_lchr_2 : decode jcLchr 2 = .ok (.arraylength, 1) := by decide +kernel
theorem jd_lchr_3 : decode jcLchr 3 = .ok (.invokestatic 9, 3) := by decide +kernel
theorem jd_lchr_6 : decode jcLchr 6 = .ok (.aload_n 0, 1) := by decide +kernel
theorem jd_lchr_7 : decode jcLchr 7 = .ok (.iload_n 1, 1) := by decide +kernel
theorem jd_lchr_8 : decode jcLchr 8 = .ok (.baload, 1) := by decide +kernel
theorem jd_lchr_9 : decode jcLchr 9 = .ok (.sipush 255, 3) := by decide +kernel
theorem jd_lchr_12 : decode jcLchr 12 = .ok (.iand, 1) := by decide +kernel
theorem jd_lchr_13 : decode jcLchr 13 = .ok (.i2c, 1) := by decide +kernel
theorem jd_lchr_14 : decode jcLchr 14 = .ok (.ireturn, 1) := by decide +kernel
theorem jd_chr_0 : decode jcChr 0 = .ok (.aload_n 0, 1) := by decide +kernel
theorem jd_chr_1 : decode jcChr 1 = .ok (.invokevirtual 492, 3) := by decide +kernel
theorem jd_chr_4 : decode jcChr 4 = .ok (.ifCond .eq 12, 3) := by decide +kernel
theorem jd_chr_7 : decode jcChr 7 = .ok (.aload_n 0, 1) := by decide +kernel
theorem jd_chr_8 : decode jcChr 8 = .ok (.getfield 9, 3) := by decide +kernel
theorem jd_chr_11 : decode jcChr 11 = .ok (.iload_n 1, 1) := by decide +kernel
theorem jd_chr_12 : decode jcChr 12 = .ok (.invokestatic 495, 3) := by decide +kernel
theorem jd_chr_15 : decode jcChr 15 = .ok (.ireturn, 1) := by decide +kernel
def wsj (y : MethodName) (cc : ByteArray) (n : Nat) (r : Option FieldType) : List Cond := Cond.code y cc n r :: gw
theorem wsj_warm {y : MethodName} {cc : ByteArray} {n : Nat} {r : Option FieldType} {args : Array Value} {s : State} (hts : ∀ w ∈ gw, w.before args s = true) (h : Cond.code y cc n r ∈ gw) : ∀ w ∈ wsj y cc n r, ∀ (a' : Array Value) (U : State), s.WarmedH U.vm → w.before a' U = true := by
  refine pay_in hts (fun w hw => ?_)
  rcases List.mem_cons.mp hw with e | e
  · rw [e]; exact gw_GoodIn _ h
  · exact gw_GoodIn w e
def PreJ (G : GT) (sz : Nat) (U : State) : Prop := U.heap.size = sz ∧ TXc G (va_A [] sz) U U.heap
theorem blindJ {G : GT} {sz : Nat} (vs : List Value) : FrameBlind (va_Pc vs (PreJ G sz)) := by
  intro a U g mk q
  obtain ⟨q0, q1, q2⟩ := q
  exact ⟨q0, q1, TXc.moved (Vm.Alike.refl U.vm) q2⟩
abbrev jrm (f w : Nat) : Room := { frames := f, cells := 0, slots := 0, locals := w }
abbrev jQi (r0 : Int32) (sz : Nat) : Array Value → State → Outcome → State → Prop := va_Qi (fun (r : Int32) (_ : Unit) => r = r0) (fun _ _ => True) (va_A [] sz)
theorem preJ {G : GT} {s : State} {sz : Nat} {A : Nat → Prop} {vs : List Value} (hA : ∀ q, va_A [] sz q → A q) (hsz : s.heap.size = sz) (hTX : TXc G A s s.heap) : ∀ U : State, U.heap = s.heap → s.WarmedH U.vm → va_Pc vs (PreJ G sz) vs.toArray U := by
  intro U hU hW
  exact ⟨rfl, by rw [hU]; exact hsz, by rw [hU]; exact TXc.moved hW.alike (hTX.narrow hA)⟩
theorem chr_all : allR (fun i => allR (fun j => decide (((((bytS.getD i []).getD j 0) &&& 255).toUInt32 % 65536).toInt32 = Int32.ofInt (sChr i j) ∧ ((Int32.ofInt (sChr i j)).toUInt32 % 65536).toInt32 = Int32.ofInt (sChr i j))) 0 (lenS.getD i 0)) 0 16 = true := by decide +kernel
theorem len_all : allR (fun i => decide (Int32.ofNat (lenS.getD i 0) >>> ((0 : Int32) &&& 31) = Int32.ofInt (sLen i) ∧ sLen i = (lenS.getD i 0 : Int) ∧ lenS.getD i 0 < 100)) 0 16 = true := by decide +kernel
theorem recvT {a : Nat} {A : Nat → Prop} {s : State} {H : Heap} (h : va_O "java/lang/String" a A s H) : ∃ cell : Cell, H[a]? = some cell ∧ cell.vm.isStatics = false ∧ s.vm.findClass "java/lang/String" = some cell.cls := by
  obtain ⟨cell, h1, h2, h3, -⟩ := h
  exact ⟨cell, h1, h2, h3⟩
def PreL (G : GT) (i a sz : Nat) (U : State) : Prop := PreJ G sz U ∧ va_T .byte a (lenS.getD i 0) (fun j => .int ((bytS.getD i []).getD j 0)) (va_A [] sz) U U.heap
theorem blindL {G : GT} {i a sz : Nat} (vs : List Value) : FrameBlind (va_Pc vs (PreL G i a sz)) := by
  intro a' U g mk q
  obtain ⟨q0, ⟨q1, q2⟩, q3⟩ := q
  exact ⟨q0, ⟨q1, TXc.moved (Vm.Alike.refl U.vm) q2⟩, va_T.moved (Vm.Alike.refl U.vm) q3⟩
theorem jA {n n1 : Nat} (h : n ≤ n1) : ∀ q, va_A [] n1 q → va_A [] n q := by
  intro q hq
  rcases hq with ⟨k, e, hq⟩ | hq
  · simp at hq
  · exact Or.inr (Nat.le_trans h hq)
section JDK
variable {l : Launch} {G : GT} {sz i : Nat}

theorem j_coder (l : Launch) (G : GT) (sz : Nat) {i : Nat} (hi : i < 16) : Met l jyCoder (wsj jyCoder jcCoder 1 (some .byte)) (jrm 0 0) (va_Pc [.ref (G.2.2 i)] (PreJ G sz)) (jQi 0 sz) 0 0 (va_A [] sz) := by
  refine Met.ofW (cc := jcCoder) (maxL := 1) (ret := (some .byte)) (by decide) rfl ?_
  intro p e s m args below meth c s₁ B hml hv
  obtain ⟨rfl, hsz, hTX⟩ := hv
  have hx := B.exec
  have hb := B.bytes
  have hr := B.returns
  have hts0 := atoms_spec (ws := wsj jyCoder jcCoder 1 (some .byte)) B.pre
  have hts : ∀ w ∈ gw, w.before _ s = true := fun w hw => hts0 w (List.mem_cons_of_mem _ hw)
  have hown : s.vm.findClass "java/lang/String" = some m.cls := findClass_of_methodNamed B.named
  have hlocks := B.notSynchronized
  subst hsz
  have hl := lv_entry ([.ref (G.2.2 i)]) (n := 1) (Nat.le_of_ble_eq_true rfl)
  rw [lg_entry_eq]
  generalize (lg_sl ([.ref (G.2.2 i)]) ++ List.replicate (1 - (lg_sl ([.ref (G.2.2 i)])).length) Slot.unset).toArray = ls at hl ⊢
  have hl : lv_has ls 1 [(0, .ref (G.2.2 i))] := hl
  have hS : va_S (va_A [] s.heap.size) s.heap s.heap [] := va_S.rf
  have hTX0 := hTX
  obtain ⟨⟨adV, hV⟩, hZ, hZq⟩ := hTX
  obtain ⟨hO, hF1, hF2, hT⟩ := hV i hi
  refine va_gets hx hb hZ hS hown (hts _ jg_2) (fun _ h => h) jd_coder_0 ?_
  refine lv_if_eq (tgt := 13) hx hb jd_coder_3 (by decide) (fun h => absurd h (by decide)) (fun _ => ?_)
  refine lv_aload_n hx hb jd_coder_6 rfl (lv_at hl 0 rfl) ?_
  refine vk_getf hx hb hF1 hS hown (hts _ jg_1) (fun _ h => h) jd_coder_7 ?_
  refine lv_goto (tgt := 14) hx hb jd_coder_10 (by decide) ?_
  exact W.zret hx hb hr rfl (fun t ht _ => ⟨⟨0, (), rfl, rfl, trivial⟩, hS.F ht⟩) hS.2.2 jd_coder_14

theorem j_latin (l : Launch) (G : GT) (sz : Nat) {i : Nat} (hi : i < 16) : Met l jyLatin (wsj jyLatin jcLatin 1 (some .boolean)) (jrm 0 0) (va_Pc [.ref (G.2.2 i)] (PreJ G sz)) (jQi 1 sz) 0 0 (va_A [] sz) := by
  refine Met.ofW (cc := jcLatin) (maxL := 1) (ret := (some .boolean)) (by decide) rfl ?_
  intro p e s m args below meth c s₁ B hml hv
  obtain ⟨rfl, hsz, hTX⟩ := hv
  have hx := B.exec
  have hb := B.bytes
  have hr := B.returns
  have hts0 := atoms_spec (ws := wsj jyLatin jcLatin 1 (some .boolean)) B.pre
  have hts : ∀ w ∈ gw, w.before _ s = true := fun w hw => hts0 w (List.mem_cons_of_mem _ hw)
  have hown : s.vm.findClass "java/lang/String" = some m.cls := findClass_of_methodNamed B.named
  have hlocks := B.notSynchronized
  subst hsz
  have hl := lv_entry ([.ref (G.2.2 i)]) (n := 1) (Nat.le_of_ble_eq_true rfl)
  rw [lg_entry_eq]
  generalize (lg_sl ([.ref (G.2.2 i)]) ++ List.replicate (1 - (lg_sl ([.ref (G.2.2 i)])).length) Slot.unset).toArray = ls at hl ⊢
  have hl : lv_has ls 1 [(0, .ref (G.2.2 i))] := hl
  have hS : va_S (va_A [] s.heap.size) s.heap s.heap [] := va_S.rf
  have hTX0 := hTX
  obtain ⟨⟨adV, hV⟩, hZ, hZq⟩ := hTX
  obtain ⟨hO, hF1, hF2, hT⟩ := hV i hi
  refine va_gets hx hb hZ hS hown (hts _ jg_2) (fun _ h => h) jd_latin_0 ?_
  refine lv_if_eq (tgt := 17) hx hb jd_latin_3 (by decide) (fun h => absurd h (by decide)) (fun _ => ?_)
  refine lv_aload_n hx hb jd_latin_6 rfl (lv_at hl 0 rfl) ?_
  refine vk_getf hx hb hF1 hS hown (hts _ jg_1) (fun _ h => h) jd_latin_7 ?_
  refine lv_if_ne (tgt := 17) hx hb jd_latin_10 (by decide) (fun h => absurd rfl h) (fun _ => ?_)
  refine lv_iconst (v := 1) hx hb jd_latin_13 (by decide) ?_
  refine lv_goto (tgt := 18) hx hb jd_latin_14 (by decide) ?_
  exact W.zret hx hb hr rfl (fun t ht _ => ⟨⟨1, (), rfl, rfl, trivial⟩, hS.F ht⟩) hS.2.2 jd_latin_18

theorem j_len (l : Launch) (G : GT) (sz : Nat) {i : Nat} (hi : i < 16) : Met l jyLen (wsj jyLen jcLen 1 (some .int)) (jrm 1 20) (va_Pc [.ref (G.2.2 i)] (PreJ G sz)) (jQi (Int32.ofInt (sLen i)) sz) 0 0 (va_A [] sz) := by
  refine Met.ofW (cc := jcLen) (maxL := 1) (ret := (some .int)) (by decide) rfl ?_
  intro p e s m args below meth c s₁ B hml hv
  obtain ⟨rfl, hsz, hTX⟩ := hv
  have hx := B.exec
  have hb := B.bytes
  have hr := B.returns
  have hts0 := atoms_spec (ws := wsj jyLen jcLen 1 (some .int)) B.pre
  have hts : ∀ w ∈ gw, w.before _ s = true := fun w hw => hts0 w (List.mem_cons_of_mem _ hw)
  have hown : s.vm.findClass "java/lang/String" = some m.cls := findClass_of_methodNamed B.named
  have hlocks := B.notSynchronized
  subst hsz
  have hl := lv_entry ([.ref (G.2.2 i)]) (n := 1) (Nat.le_of_ble_eq_true rfl)
  rw [lg_entry_eq]
  generalize (lg_sl ([.ref (G.2.2 i)]) ++ List.replicate (1 - (lg_sl ([.ref (G.2.2 i)])).length) Slot.unset).toArray = ls at hl ⊢
  have hl : lv_has ls 1 [(0, .ref (G.2.2 i))] := hl
  have hS : va_S (va_A [] s.heap.size) s.heap s.heap [] := va_S.rf
  have hTX0 := hTX
  obtain ⟨⟨adV, hV⟩, hZ, hZq⟩ := hTX
  obtain ⟨hO, hF1, hF2, hT⟩ := hV i hi
  refine lv_aload_n hx hb jd_len_0 rfl (lv_at hl 0 rfl) ?_
  refine vk_getf hx hb hF2 hS hown (hts _ jg_0) (fun _ h => h) jd_len_1 ?_
  refine va_tlen hx hb hT hS rfl jd_len_4 ?_
  refine lv_aload_n hx hb jd_len_5 rfl (lv_at hl 0 rfl) ?_
  refine va_calli (va_runV (C := "java/lang/String") (As := []) (rest := [.int (Int32.ofNat (lenS.getD i 0))]) ⟨hx, hb, hml, hown, hts⟩ (j_coder l G s.heap.size hi) ⟨⟨rfl, rfl, Nat.le_of_ble_eq_true rfl, Nat.le_of_ble_eq_true rfl, wsj_warm hts jg_6, List.mem_cons_self, hts _ jg_6, hts _ ji_0, by decide, parse_len (n := 0) (by decide +kernel), hts _ jg_3⟩, hts _ jg_4, hts _ jg_5⟩ ⟨blindJ _, recvT hO, preJ (fun _ h => h) rfl hTX0⟩ rfl rfl hl.1 rfl (lv_room (Nat.le_of_ble_eq_true rfl)) jd_len_6 ⟨Nat.zero_le _, Nat.zero_le _⟩) hS (fun q _ h => h) (fun q h => h) (fun r u t H1 locs1 ht hvm hw hB hz1 hk1 hS => ?_)
  refine lv_ishr hx hb jd_len_9 ?_
  have e1 := (of_decide_eq_true (allR_at 16 0 i len_all (by omega) (by omega))).1
  rw [hw, e1]
  exact W.iret hx hb hr (fun t ht _ => ⟨⟨_, (), rfl, rfl, trivial⟩, hS.F ht⟩) hS.2.2 jd_len_10

theorem j_pchkN (l : Launch) (G : GT) (sz : Nat) {a n : Int32} (ha : ¬ a < 0) (hn : a < n) : Met l jyPchk (wsj jyPchk jcPchk 3 (some .int)) (jrm 0 0) (va_Pc [.int a, .int n, .null] (PreJ G sz)) (jQi a sz) 0 0 (va_A [] sz) := by
  refine Met.ofW (cc := jcPchk) (maxL := 3) (ret := (some .int)) (by decide) rfl ?_
  intro p e s m args below meth c s₁ B hml hv
  obtain ⟨rfl, hsz, hTX⟩ := hv
  have hx := B.exec
  have hb := B.bytes
  have hr := B.returns
  have hts0 := atoms_spec (ws := wsj jyPchk jcPchk 3 (some .int)) B.pre
  have hts : ∀ w ∈ gw, w.before _ s = true := fun w hw => hts0 w (List.mem_cons_of_mem _ hw)
  have hown : s.vm.findClass "jdk/internal/util/Preconditions" = some m.cls := findClass_of_methodNamed B.named
  have hlocks := B.notSynchronized
  subst hsz
  have hl := lv_entry ([.int a, .int n, .null]) (n := 3) (Nat.le_of_ble_eq_true rfl)
  rw [lg_entry_eq]
  generalize (lg_sl ([.int a, .int n, .null]) ++ List.replicate (3 - (lg_sl ([.int a, .int n, .null])).length) Slot.unset).toArray = ls at hl ⊢
  have hl : lv_has ls 3 [(0, .int a), (1, .int n), (2, .null)] := hl
  have hS : va_S (va_A [] s.heap.size) s.heap s.heap [] := va_S.rf
  have hTX0 := hTX
  obtain ⟨⟨adV, hV⟩, hZ, hZq⟩ := hTX
  refine lv_iload_n hx hb jd_pchk_0 rfl (lv_at hl 0 rfl) ?_
  refine lv_if_lt (tgt := 9) hx hb jd_pchk_1 (by decide) (fun h => absurd h ha) (fun _ => ?_)
  refine lv_iload_n hx hb jd_pchk_4 rfl (lv_at hl 0 rfl) ?_
  refine lv_iload_n hx hb jd_pchk_5 rfl (lv_at hl 1 rfl) ?_
  refine lv_icmp_lt (tgt := 16) hx hb jd_pchk_6 (by decide) (fun _ => ?_) (fun h => absurd hn h)
  refine lv_iload_n hx hb jd_pchk_16 rfl (lv_at hl 0 rfl) ?_
  exact W.iret hx hb hr (fun t ht _ => ⟨⟨_, (), rfl, rfl, trivial⟩, hS.F ht⟩) hS.2.2 jd_pchk_17

theorem j_pchkR (l : Launch) (G : GT) (sz : Nat) {a n : Int32} {t0 : Nat} (ha : ¬ a < 0) (hn : a < n) : Met l jyPchk (wsj jyPchk jcPchk 3 (some .int)) (jrm 0 0) (va_Pc [.int a, .int n, .ref t0] (PreJ G sz)) (jQi a sz) 0 0 (va_A [] sz) := by
  refine Met.ofW (cc := jcPchk) (maxL := 3) (ret := (some .int)) (by decide) rfl ?_
  intro p e s m args below meth c s₁ B hml hv
  obtain ⟨rfl, hsz, hTX⟩ := hv
  have hx := B.exec
  have hb := B.bytes
  have hr := B.returns
  have hts0 := atoms_spec (ws := wsj jyPchk jcPchk 3 (some .int)) B.pre
  have hts : ∀ w ∈ gw, w.before _ s = true := fun w hw => hts0 w (List.mem_cons_of_mem _ hw)
  have hown : s.vm.findClass "jdk/internal/util/Preconditions" = some m.cls := findClass_of_methodNamed B.named
  have hlocks := B.notSynchronized
  subst hsz
  have hl := lv_entry ([.int a, .int n, .ref t0]) (n := 3) (Nat.le_of_ble_eq_true rfl)
  rw [lg_entry_eq]
  generalize (lg_sl ([.int a, .int n, .ref t0]) ++ List.replicate (3 - (lg_sl ([.int a, .int n, .ref t0])).length) Slot.unset).toArray = ls at hl ⊢
  have hl : lv_has ls 3 [(0, .int a), (1, .int n), (2, .ref t0)] := hl
  have hS : va_S (va_A [] s.heap.size) s.heap s.heap [] := va_S.rf
  have hTX0 := hTX
  obtain ⟨⟨adV, hV⟩, hZ, hZq⟩ := hTX
  refine lv_iload_n hx hb jd_pchk_0 rfl (lv_at hl 0 rfl) ?_
  refine lv_if_lt (tgt := 9) hx hb jd_pchk_1 (by decide) (fun h => absurd h ha) (fun _ => ?_)
  refine lv_iload_n hx hb jd_pchk_4 rfl (lv_at hl 0 rfl) ?_
  refine lv_iload_n hx hb jd_pchk_5 rfl (lv_at hl 1 rfl) ?_
  refine lv_icmp_lt (tgt := 16) hx hb jd_pchk_6 (by decide) (fun _ => ?_) (fun h => absurd hn h)
  refine lv_iload_n hx hb jd_pchk_16 rfl (lv_at hl 0 rfl) ?_
  exact W.iret hx hb hr (fun t ht _ => ⟨⟨_, (), rfl, rfl, trivial⟩, hS.F ht⟩) hS.2.2 jd_pchk_17

theorem j_chk (l : Launch) (G : GT) (sz : Nat) {a n : Int32} (ha : ¬ a < 0) (hn : a < n) : Met l jyChk (wsj jyChk jcChk 2 none) (jrm 1 22) (va_Pc [.int a, .int n] (PreJ G sz)) (va_Qv (fun (_ : Unit) => True) (fun _ _ => True) (va_A [] sz)) 0 0 (va_A [] sz) := by
  refine Met.ofW (cc := jcChk) (maxL := 2) (ret := none) (by decide) rfl ?_
  intro p e s m args below meth c s₁ B hml hv
  obtain ⟨rfl, hsz, hTX⟩ := hv
  have hx := B.exec
  have hb := B.bytes
  have hr := B.returns
  have hts0 := atoms_spec (ws := wsj jyChk jcChk 2 none) B.pre
  have hts : ∀ w ∈ gw, w.before _ s = true := fun w hw => hts0 w (List.mem_cons_of_mem _ hw)
  have hown : s.vm.findClass "java/lang/String" = some m.cls := findClass_of_methodNamed B.named
  have hlocks := B.notSynchronized
  subst hsz
  have hl := lv_entry ([.int a, .int n]) (n := 2) (Nat.le_of_ble_eq_true rfl)
  rw [lg_entry_eq]
  generalize (lg_sl ([.int a, .int n]) ++ List.replicate (2 - (lg_sl ([.int a, .int n])).length) Slot.unset).toArray = ls at hl ⊢
  have hl : lv_has ls 2 [(0, .int a), (1, .int n)] := hl
  have hS : va_S (va_A [] s.heap.size) s.heap s.heap [] := va_S.rf
  have hTX0 := hTX
  obtain ⟨⟨adV, hV⟩, hZ, hZq⟩ := hTX
  refine lv_iload_n hx hb jd_chk_0 rfl (lv_at hl 0 rfl) ?_
  refine lv_iload_n hx hb jd_chk_1 rfl (lv_at hl 1 rfl) ?_
  rcases hZq with hZ1 | ⟨t0, hZ1⟩
  · refine va_gets hx hb hZ1 hS hown (hts _ jg_23) (fun _ h => h) jd_chk_2 ?_
    refine va_calli (va_runS (As := [.int a, .int n, .null]) (rest := []) ⟨hx, hb, hml, hown, hts⟩ (j_pchkN l G s.heap.size ha hn) ⟨⟨rfl, rfl, Nat.le_of_ble_eq_true rfl, Nat.le_of_ble_eq_true rfl, wsj_warm hts jg_26, List.mem_cons_self, hts _ jg_26, hts _ ji_2, by decide, parse_len (n := 3) (by decide +kernel), hts _ jg_24⟩, hts _ jg_25⟩ ⟨blindJ _, preJ (fun _ h => h) rfl hTX0⟩ rfl rfl hl.1 rfl (lv_room (Nat.le_of_ble_eq_true rfl)) jd_chk_5 ⟨Nat.zero_le _, Nat.zero_le _⟩) hS (fun q _ h => h) (fun q h => h) (fun r u t H1 locs1 ht hvm hw hB hz1 hk1 hS => ?_)
    refine lv_pop hx hb jd_chk_8 rfl ?_
    exact W.vret hx hb hr (fun t ht _ => ⟨⟨(), rfl, trivial, trivial⟩, hS.F ht⟩) hS.2.2 jd_chk_9
  · refine va_gets hx hb hZ1 hS hown (hts _ jg_23) (fun _ h => h) jd_chk_2 ?_
    refine va_calli (va_runS (As := [.int a, .int n, .ref t0]) (rest := []) ⟨hx, hb, hml, hown, hts⟩ (j_pchkR l G s.heap.size (t0 := t0) ha hn) ⟨⟨rfl, rfl, Nat.le_of_ble_eq_true rfl, Nat.le_of_ble_eq_true rfl, wsj_warm hts jg_26, List.mem_cons_self, hts _ jg_26, hts _ ji_2, by decide, parse_len (n := 3) (by decide +kernel), hts _ jg_24⟩, hts _ jg_25⟩ ⟨blindJ _, preJ (fun _ h => h) rfl hTX0⟩ rfl rfl hl.1 rfl (lv_room (Nat.le_of_ble_eq_true rfl)) jd_chk_5 ⟨Nat.zero_le _, Nat.zero_le _⟩) hS (fun q _ h => h) (fun q h => h) (fun r u t H1 locs1 ht hvm hw hB hz1 hk1 hS => ?_)
    refine lv_pop hx hb jd_chk_8 rfl ?_
    exact W.vret hx hb hr (fun t ht _ => ⟨⟨(), rfl, trivial, trivial⟩, hS.F ht⟩) hS.2.2 jd_chk_9

theorem j_lchr (l : Launch) (G : GT) (sz : Nat) {i j a : Nat} (hi : i < 16) (hj : j < lenS.getD i 0) : Met l jyLchr (wsj jyLchr jcLchr 2 (some .char)) (jrm 2 43) (va_Pc [.ref a, .int (Int32.ofNat j)] (PreL G i a sz)) (jQi (Int32.ofInt (sChr i j)) sz) 0 0 (va_A [] sz) := by
  refine Met.ofW (cc := jcLchr) (maxL := 2) (ret := (some .char)) (by decide) rfl ?_
  intro p e s m args below meth c s₁ B hml hv
  obtain ⟨rfl, ⟨hsz, hTX⟩, hT⟩ := hv
  have hx := B.exec
  have hb := B.bytes
  have hr := B.returns
  have hts0 := atoms_spec (ws := wsj jyLchr jcLchr 2 (some .char)) B.pre
  have hts : ∀ w ∈ gw, w.before _ s = true := fun w hw => hts0 w (List.mem_cons_of_mem _ hw)
  have hown : s.vm.findClass "java/lang/StringLatin1" = some m.cls := findClass_of_methodNamed B.named
  have hlocks := B.notSynchronized
  subst hsz
  have hl := lv_entry ([.ref a, .int (Int32.ofNat j)]) (n := 2) (Nat.le_of_ble_eq_true rfl)
  rw [lg_entry_eq]
  generalize (lg_sl ([.ref a, .int (Int32.ofNat j)]) ++ List.replicate (2 - (lg_sl ([.ref a, .int (Int32.ofNat j)])).length) Slot.unset).toArray = ls at hl ⊢
  have hl : lv_has ls 2 [(0, .ref a), (1, .int (Int32.ofNat j))] := hl
  have hS : va_S (va_A [] s.heap.size) s.heap s.heap [] := va_S.rf
  have hTX0 := hTX
  obtain ⟨⟨adV, hV⟩, hZ, hZq⟩ := hTX
  obtain ⟨-, e2, e3⟩ := of_decide_eq_true (allR_at 16 0 i len_all (by omega) (by omega))
  obtain ⟨f1, f2⟩ := of_decide_eq_true (allR_at (lenS.getD i 0) 0 j (allR_at 16 0 i chr_all (by omega) (by omega)) (by omega) (by omega))
  have hjc : (Int32.ofNat j).toNatClampNeg = j := Int32.toNatClampNeg_ofNat_of_lt (by omega)
  have hj0 : ¬ Int32.ofNat j < 0 := nI_pos (by omega)
  have hjn : Int32.ofNat j < Int32.ofNat (lenS.getD i 0) := nI_lt hj (by omega)
  refine lv_iload_n hx hb jd_lchr_0 rfl (lv_at hl 1 rfl) ?_
  refine lv_aload_n hx hb jd_lchr_1 rfl (lv_at hl 0 rfl) ?_
  refine va_tlen hx hb hT hS rfl jd_lchr_2 ?_
  refine va_callv (va_runS (As := [.int (Int32.ofNat j), .int (Int32.ofNat (lenS.getD i 0))]) (rest := []) ⟨hx, hb, hml, hown, hts⟩ (j_chk l G s.heap.size hj0 hjn) ⟨⟨rfl, rfl, Nat.le_of_ble_eq_true rfl, Nat.le_of_ble_eq_true rfl, wsj_warm hts jg_22, List.mem_cons_self, hts _ jg_22, hts _ ji_0, by decide, parse_len (n := 2) (by decide +kernel), hts _ jg_20⟩, hts _ jg_21⟩ ⟨blindJ _, preJ (fun _ h => h) rfl hTX0⟩ rfl rfl hl.1 rfl (lv_room (Nat.le_of_ble_eq_true rfl)) jd_lchr_3 ⟨Nat.zero_le _, Nat.zero_le _⟩) hS (fun q _ h => h) (fun q h => h) (fun u t H1 locs1 ht hvm hw hB hz1 hk1 hS => ?_)
  refine lv_aload_n hx hb jd_lchr_6 rfl (lv_at hl 0 rfl) ?_
  refine lv_iload_n hx hb jd_lchr_7 rfl (lv_at hl 1 rfl) ?_
  refine va_tb hx hb hT hS (v := .int ((bytS.getD i []).getD j 0)) (vp_in_nI hj (by omega)) (by show Value.int ((bytS.getD i []).getD (Int32.ofNat j).toNatClampNeg 0) = _; rw [hjc]) jd_lchr_8 ?_
  refine lv_sipush (v := 255) hx hb jd_lchr_9 (by decide) ?_
  refine lv_iand hx hb jd_lchr_12 ?_
  refine lv_i2c hx hb jd_lchr_13 f1 ?_
  exact W.zret hx hb hr (by show Value.int ((Int32.ofInt (sChr i j)).toUInt32 % 65536).toInt32 = _; rw [f2]) (fun t ht _ => ⟨⟨_, (), rfl, rfl, trivial⟩, hS.F ht⟩) hS.2.2 jd_lchr_14

theorem j_chr (l : Launch) (G : GT) (sz : Nat) {i j : Nat} (hi : i < 16) (hj : j < lenS.getD i 0) : Met l jyChr (wsj jyChr jcChr 2 (some .char)) (jrm 3 64) (va_Pc [.ref (G.2.2 i), .int (Int32.ofNat j)] (PreJ G sz)) (jQi (Int32.ofInt (sChr i j)) sz) 0 0 (va_A [] sz) := by
  refine Met.ofW (cc := jcChr) (maxL := 2) (ret := (some .char)) (by decide) rfl ?_
  intro p e s m args below meth c s₁ B hml hv
  obtain ⟨rfl, hsz, hTX⟩ := hv
  have hx := B.exec
  have hb := B.bytes
  have hr := B.returns
  have hts0 := atoms_spec (ws := wsj jyChr jcChr 2 (some .char)) B.pre
  have hts : ∀ w ∈ gw, w.before _ s = true := fun w hw => hts0 w (List.mem_cons_of_mem _ hw)
  have hown : s.vm.findClass "java/lang/String" = some m.cls := findClass_of_methodNamed B.named
  have hlocks := B.notSynchronized
  subst hsz
  have hl := lv_entry ([.ref (G.2.2 i), .int (Int32.ofNat j)]) (n := 2) (Nat.le_of_ble_eq_true rfl)
  rw [lg_entry_eq]
  generalize (lg_sl ([.ref (G.2.2 i), .int (Int32.ofNat j)]) ++ List.replicate (2 - (lg_sl ([.ref (G.2.2 i), .int (Int32.ofNat j)])).length) Slot.unset).toArray = ls at hl ⊢
  have hl : lv_has ls 2 [(0, .ref (G.2.2 i)), (1, .int (Int32.ofNat j))] := hl
  have hS : va_S (va_A [] s.heap.size) s.heap s.heap [] := va_S.rf
  have hTX0 := hTX
  obtain ⟨⟨adV, hV⟩, hZ, hZq⟩ := hTX
  obtain ⟨hO, hF1, hF2, hT⟩ := hV i hi
  obtain ⟨f1, f2⟩ := of_decide_eq_true (allR_at (lenS.getD i 0) 0 j (allR_at 16 0 i chr_all (by omega) (by omega)) (by omega) (by omega))
  refine lv_aload_n hx hb jd_chr_0 rfl (lv_at hl 0 rfl) ?_
  refine va_calli (va_runV (C := "java/lang/String") (As := []) (rest := []) ⟨hx, hb, hml, hown, hts⟩ (j_latin l G s.heap.size hi) ⟨⟨rfl, rfl, Nat.le_of_ble_eq_true rfl, Nat.le_of_ble_eq_true rfl, wsj_warm hts jg_13, List.mem_cons_self, hts _ jg_13, hts _ ji_0, by decide, parse_len (n := 0) (by decide +kernel), hts _ jg_10⟩, hts _ jg_11, hts _ jg_12⟩ ⟨blindJ _, recvT hO, preJ (fun _ h => h) rfl hTX0⟩ rfl rfl hl.1 rfl (lv_room (Nat.le_of_ble_eq_true rfl)) jd_chr_1 ⟨Nat.zero_le _, Nat.zero_le _⟩) hS (fun q _ h => h) (fun q h => h) (fun r u t H1 locs1 ht hvm hw hB hz1 hk1 hS => ?_)
  rw [hw]
  refine lv_if_eq (tgt := 16) hx hb jd_chr_4 (by decide) (fun h => absurd h (by decide)) (fun _ => ?_)
  refine lv_aload_n hx hb jd_chr_7 rfl (lv_at hl 0 rfl) ?_
  refine vk_getf hx hb hF2 hS hown (hts _ jg_0) (fun _ h => h) jd_chr_8 ?_
  refine lv_iload_n hx hb jd_chr_11 rfl (lv_at hl 1 rfl) ?_
  have hT1 := hT.kept hS.2.1
  refine va_calli (va_runS (As := [.ref (adV i), .int (Int32.ofNat j)]) (rest := []) ⟨hx, hb, hml, hown, hts⟩ (j_lchr l G H1.size (a := adV i) hi hj) ⟨⟨rfl, rfl, Nat.le_of_ble_eq_true rfl, Nat.le_of_ble_eq_true rfl, wsj_warm hts jg_19, List.mem_cons_self, hts _ jg_19, hts _ ji_1, by decide, parse_len (n := 2) (by decide +kernel), hts _ jg_17⟩, hts _ jg_18⟩ ⟨blindL _, fun U hU hW => ⟨rfl, ⟨by rw [hU], by rw [hU]; exact TXc.moved hW.alike ((hTX0.kept hS.2.1).narrow (jA hS.1))⟩, by rw [hU]; exact va_T.moved hW.alike (hT1.narrow (jA hS.1))⟩⟩ rfl rfl hl.1 rfl (lv_room (Nat.le_of_ble_eq_true rfl)) jd_chr_12 ⟨Nat.zero_le _, Nat.zero_le _⟩) hS (fun q _ h => jA hS.1 q h) (fun q h => jA hS.1 q h) (fun r u t H2 locs2 ht hvm hw hB hz1 hk1 hS => ?_)
  rw [hw]
  exact W.zret hx hb hr (by show Value.int ((Int32.ofInt (sChr i j)).toUInt32 % 65536).toInt32 = _; rw [f2]) (fun t ht _ => ⟨⟨_, (), rfl, rfl, trivial⟩, hS.F ht⟩) hS.2.2 jd_chr_15
end JDK
