section
/-! THE JDK'S OWN METHODS of texts: length, charAt -/
def jyCoder : MethodName := ⟨"java/lang/String", "coder", "()B"⟩
def jyLen : MethodName := ⟨"java/lang/String", "length", "()I"⟩
def jyLatin : MethodName := ⟨"java/lang/String", "isLatin1", "()Z"⟩
def jyChr : MethodName := ⟨"java/lang/String", "charAt", "(I)C"⟩
def jyLchr : MethodName := ⟨"java/lang/StringLatin1", "charAt", "([BI)C"⟩
def jyChk : MethodName := ⟨"java/lang/String", "checkIndex", "(II)V"⟩
def jyPchk : MethodName := ⟨"jdk/internal/util/Preconditions", "checkIndex", "(IILjava/util/function/BiFunction;)I"⟩
theorem jwg (j : Nat) (h : elemW (40, j, 0, 0) = true) : jw j ∈ gw := gw_of (q := (40, j, 0, 0)) h rfl
theorem jg_0 : Cond.fieldLink "java/lang/String" 9 "java/lang/String" "value" "[B" ∈ gw := jwg 0 (by decide +kernel)
theorem jg_1 : Cond.fieldLink "java/lang/String" 15 "java/lang/String" "coder" "B" ∈ gw := jwg 1 (by decide +kernel)
theorem jg_2 : Cond.fieldLink "java/lang/String" 38 "java/lang/String" "COMPACT_STRINGS" "Z" ∈ gw := jwg 2 (by decide +kernel)
theorem jg_3 : Cond.methodLink "java/lang/String" 335 jyCoder ∈ gw := jwg 3 (by decide +kernel)
theorem jg_4 : Cond.instanceMethod jyCoder ∈ gw := jwg 4 (by decide +kernel)
theorem jg_5 : Cond.selects "java/lang/String" jyCoder jyCoder ∈ gw := jwg 5 (by decide +kernel)
theorem jg_6 : Cond.code jyCoder jcCoder 1 (some .byte) ∈ gw := jwg 6 (by decide +kernel)
theorem jg_7 : Cond.instanceMethod jyLen ∈ gw := jwg 7 (by decide +kernel)
theorem jg_8 : Cond.selects "java/lang/String" jyLen jyLen ∈ gw := jwg 8 (by decide +kernel)
theorem jg_9 : Cond.code jyLen jcLen 1 (some .int) ∈ gw := jwg 9 (by decide +kernel)
theorem jg_10 : Cond.methodLink "java/lang/String" 492 jyLatin ∈ gw := jwg 10 (by decide +kernel)
theorem jg_11 : Cond.instanceMethod jyLatin ∈ gw := jwg 11 (by decide +kernel)
theorem jg_12 : Cond.selects "java/lang/String" jyLatin jyLatin ∈ gw := jwg 12 (by decide +kernel)
theorem jg_13 : Cond.code jyLatin jcLatin 1 (some .boolean) ∈ gw := jwg 13 (by decide +kernel)
theorem jg_14 : Cond.instanceMethod jyChr ∈ gw := jwg 14 (by decide +kernel)
theorem jg_15 : Cond.selects "java/lang/String" jyChr jyChr ∈ gw := jwg 15 (by decide +kernel)
theorem jg_16 : Cond.code jyChr jcChr 2 (some .char) ∈ gw := jwg 16 (by decide +kernel)
theorem jg_17 : Cond.methodLink "java/lang/String" 495 jyLchr ∈ gw := jwg 17 (by decide +kernel)
theorem jg_18 : Cond.static jyLchr ∈ gw := jwg 18 (by decide +kernel)
theorem jg_19 : Cond.code jyLchr jcLchr 2 (some .char) ∈ gw := jwg 19 (by decide +kernel)
theorem jg_20 : Cond.methodLink "java/lang/StringLatin1" 9 jyChk ∈ gw := jwg 20 (by decide +kernel)
theorem jg_21 : Cond.static jyChk ∈ gw := jwg 21 (by decide +kernel)
theorem jg_22 : Cond.code jyChk jcChk 2 none ∈ gw := jwg 22 (by decide +kernel)
theorem jg_23 : Cond.fieldLink "java/lang/String" 1053 "jdk/internal/util/Preconditions" "SIOOBE_FORMATTER" "Ljava/util/function/BiFunction;" ∈ gw := jwg 23 (by decide +kernel)
theorem jg_24 : Cond.methodLink "java/lang/String" 1059 jyPchk ∈ gw := jwg 24 (by decide +kernel)
theorem jg_25 : Cond.static jyPchk ∈ gw := jwg 25 (by decide +kernel)
theorem jg_26 : Cond.code jyPchk jcPchk 3 (some .int) ∈ gw := jwg 26 (by decide +kernel)
theorem ji_0 : Cond.initialized "java/lang/String" ∈ gw := gw_of (q := (8, 55, 0, 0)) (by decide +kernel) rfl
theorem ji_1 : Cond.initialized "java/lang/StringLatin1" ∈ gw := gw_of (q := (8, 56, 0, 0)) (by decide +kernel) rfl
theorem ji_2 : Cond.initialized "jdk/internal/util/Preconditions" ∈ gw := gw_of (q := (8, 57, 0, 0)) (by decide +kernel) rfl
theorem jd_coder_0 : decode jcCoder 0 = .ok (.getstatic 38, 3) := by decide +kernel
theorem jd_coder_3 : decode jcCoder 3 = .ok (.ifCond .eq 10, 3) := by decide +kernel
theorem jd_coder_6 : decode jcCoder 6 = .ok (.aload_n 0, 1) := by decide +kernel
theorem jd_coder_7 : decode jcCoder 7 = .ok (.getfield 15, 3) := by decide +kernel
theorem jd_coder_10 : decode jcCoder 10 = .ok (.goto 4, 3) := by decide +kernel
theorem jd_coder_14 : decode jcCoder 14 = .ok (.ireturn, 1) := by decide +kernel
theorem jd_latin_0 : decode jcLatin 0 = .ok (.getstatic 38, 3) := by decide +kernel
theorem jd_latin_3 : decode jcLatin 3 = .ok (.ifCond .eq 14, 3) := by decide +kernel
theorem jd_latin_6 : decode jcLatin 6 = .ok (.aload_n 0, 1) := by decide +kernel
theorem jd_latin_7 : decode jcLatin 7 = .ok (.getfield 15, 3) := by decide +kernel
theorem jd_latin_10 : decode jcLatin 10 = .ok (.ifCond .ne 7, 3) := by decide +kernel
theorem jd_latin_13 : decode jcLatin 13 = .ok (.iconst 1, 1) := by decide +kernel
theorem jd_latin_14 : decode jcLatin 14 = .ok (.goto 4, 3) := by decide +kernel
theorem jd_latin_18 : decode jcLatin 18 = .ok (.ireturn, 1) := by decide +kernel
theorem jd_len_0 : decode jcLen 0 = .ok (.aload_n 0, 1) := by decide +kernel
theorem jd_len_1 : decode jcLen 1 = .ok (.getfield 9, 3) := by decide +kernel
theorem jd_len_4 : decode jcLen 4 = .ok (.arraylength, 1) := by decide +kernel
theorem jd_len_5 : decode jcLen 5 = .ok (.aload_n 0, 1) := by decide +kernel
theorem jd_len_6 : decode jcLen 6 = .ok (.invokevirtual 335, 3) := by decide +kernel
theorem jd_len_9 : decode jcLen 9 = .ok (.ishr, 1) := by decide +kernel
theorem jd_len_10 : decode jcLen 10 = .ok (.ireturn, 1) := by decide +kernel
theorem jd_pchk_0 : decode jcPchk 0 = .ok (.iload_n 0, 1) := by decide +kernel
theorem jd_pchk_1 : decode jcPchk 1 = .ok (.ifCond .lt 8, 3) := by decide +kernel
theorem jd_pchk_4 : decode jcPchk 4 = .ok (.iload_n 0, 1) := by decide +kernel
theorem jd_pchk_5 : decode jcPchk 5 = .ok (.iload_n 1, 1) := by decide +kernel
theorem jd_pchk_6 : decode jcPchk 6 = .ok (.if_icmp .lt 10, 3) := by decide +kernel
theorem jd_pchk_16 : decode jcPchk 16 = .ok (.iload_n 0, 1) := by decide +kernel
theorem jd_pchk_17 : decode jcPchk 17 = .ok (.ireturn, 1) := by decide +kernel
theorem jd_chk_0 : decode jcChk 0 = .ok (.iload_n 0, 1) := by decide +kernel
theorem jd_chk_1 : decode jcChk 1 = .ok (.iload_n 1, 1) := by decide +kernel
theorem jd_chk_2 : decode jcChk 2 = .ok (.getstatic 1053, 3) := by decide +kernel
theorem jd_chk_5 : decode jcChk 5 = .ok (.invokestatic 1059, 3) := by decide +kernel
theorem jd_chk_8 : decode jcChk 8 = .ok (.pop, 1) := by decide +kernel
theorem jd_chk_9 : decode jcChk 9 = .ok (.return_, 1) := by decide +kernel
theorem jd_lchr_0 : decode jcLchr 0 = .ok (.iload_n 1, 1) := by decide +kernel
theorem jd_lchr_1 : decode jcLchr 1 = .ok (.aload_n 0, 1) := by decide +kernel
theorem jd_lchr_2 : decode jcLchr 2 = .ok (.arraylength, 1) := by decide +kernel
theorem jd_lchr_3 : decode jcLchr 3 = .ok (.invokestatic 9, 3) := by decide +kernel
theorem jd_lchr_6 : decode jcLchr 6 = .ok (.aload_n 0, 1) := by decide +kernel
theorem jd_lchr_7 : decode jcLchr 7 = .ok (.iload_n 1, 1) := by decide +kernel
theorem jd_lchr_8 : decode jcLchr 8 = .ok (.baload, 1) := by decide +kernel
theorem jd_lchr_9 : decode jcLchr 9 = .ok (.sipush 255, 3) := by decide +kernel
theorem jd_lchr_12 : decode jcLchr 12 = .ok (.iand, 1) := by decide +kernel
theorem jd_lchr_13 : decode jcLchr 13 = .ok (.i2c, 1) := by decide +kernel
theorem jd_lchr_14 : decode jcLchr 14 = .ok (.ireturn, 1) := by decide +kernel
theorem jd_chr_0 : decode jcChr 0 = .ok (.aload_n 0, 1) := by decide +kernel
theorem jd_chr_1 : decode jcChr 1 = .ok (.invokevirtual 492, 3) := by decide +kernel
theorem jd_chr_4 : decode jcChr 4 = .ok (.ifCond .eq 12, 3) := by decide +kernel
theorem jd_chr_7 : decode jcChr 7 = .ok (.aload_n 0, 1) := by decide +kernel
theorem jd_chr_8 : decode jcChr 8 = .ok (.getfield 9, 3) := by decide +kernel
theorem jd_chr_11 : decode jcChr 11 = .ok (.iload_n 1, 1) := by decide +kernel
theorem jd_chr_12 : decode jcChr 12 = .ok (.invokestatic 495, 3) := by decide +kernel
theorem jd_chr_15 : decode jcChr 15 = .ok (.ireturn, 1) := by decide +kernel
def wsj (y : MethodName) (cc : ByteArray) (n : Nat) (r : Option FieldType) : List Cond := Cond.code y cc n r :: gw
theorem wsj_warm {y : MethodName} {cc : ByteArray} {n : Nat} {r : Option FieldType} {args : Array Value} {s : State} (hts : ∀ w ∈ gw, w.before args s = true) (h : Cond.code y cc n r ∈ gw) : ∀ w ∈ wsj y cc n r, ∀ (a' : Array Value) (U : State), s.WarmedH U.vm → w.before a' U = true := by
  refine pay_in hts (fun w hw => ?_)
  rcases List.mem_cons.mp hw with e | e
  · rw [e]; exact gw_GoodIn _ h
  · exact gw_GoodIn w e
def PreJ (G : GT) (sz : Nat) (U : State) : Prop := U.heap.size = sz ∧ TXc G (va_A [] sz) U U.heap
theorem blindJ {G : GT} {sz : Nat} (vs : List Value) : FrameBlind (va_Pc vs (PreJ G sz)) := by
  intro a U g mk q
  obtain ⟨q0, q1, q2⟩ := q
  exact ⟨q0, q1, TXc.moved (Vm.Alike.refl U.vm) q2⟩
abbrev jrm (f w : Nat) : Room := { frames := f, cells := 0, slots := 0, locals := w }
abbrev jQi (r0 : Int32) (sz : Nat) : Array Value → State → Outcome → State → Prop := va_Qi (fun (r : Int32) (_ : Unit) => r = r0) (fun _ _ => True) (va_A [] sz)
theorem preJ {G : GT} {s : State} {sz : Nat} {A : Nat → Prop} {vs : List Value} (hA : ∀ q, va_A [] sz q → A q) (hsz : s.heap.size = sz) (hTX : TXc G A s s.heap) : ∀ U : State, U.heap = s.heap → s.WarmedH U.vm → va_Pc vs (PreJ G sz) vs.toArray U := by
  intro U hU hW
  exact ⟨rfl, by rw [hU]; exact hsz, by rw [hU]; exact TXc.moved hW.alike (hTX.narrow hA)⟩
theorem chr_all : allR (fun i => allR (fun j => decide (((((bytS.getD i []).getD j 0) &&& 255).toUInt32 % 65536).toInt32 = Int32.ofInt (sChr i j) ∧ ((Int32.ofInt (sChr i j)).toUInt32 % 65536).toInt32 = Int32.ofInt (sChr i j))) 0 (lenS.getD i 0)) 0 16 = true := by decide +kernel
theorem len_all : allR (fun i => decide (Int32.ofNat (lenS.getD i 0) >>> ((0 : Int32) &&& 31) = Int32.ofInt (sLen i) ∧ sLen i = (lenS.getD i 0 : Int) ∧ lenS.getD i 0 < 100)) 0 16 = true := by decide +kernel
theorem recvT {a : Nat} {A : Nat → Prop} {s : State} {H : Heap} (h : va_O "java/lang/String" a A s H) : ∃ cell : Cell, H[a]? = some cell ∧ cell.vm.isStatics = false ∧ s.vm.findClass "java/lang/String" = some cell.cls := by
  obtain ⟨cell, h1, h2, h3, -⟩ := h
  exact ⟨cell, h1, h2, h3⟩
def PreL (G : GT) (i a sz : Nat) (U : State) : Prop := PreJ G sz U ∧ va_T .byte a (lenS.getD i 0) (fun j => .int ((bytS.getD i []).getD j 0)) (va_A [] sz) U U.heap
theorem blindL {G : GT} {i a sz : Nat} (vs : List Value) : FrameBlind (va_Pc vs (PreL G i a sz)) := by
  intro a' U g mk q
  obtain ⟨q0, ⟨q1, q2⟩, q3⟩ := q
  exact ⟨q0, ⟨q1, TXc.moved (Vm.Alike.refl U.vm) q2⟩, va_T.moved (Vm.Alike.refl U.vm) q3⟩
theorem jA {n n1 : Nat} (h : n ≤ n1) : ∀ q, va_A [] n1 q → va_A [] n q := by
  intro q hq
  rcases hq with ⟨k, e, hq⟩ | hq
  · simp at hq
  · exact Or.inr (Nat.le_trans h hq)
section JDK
variable {l : Launch} {G : GT} {sz i : Nat}

theorem j_coder (l : Launch) (G : GT) (sz : Nat) {i : Nat} (hi : i < 16) : Met l jyCoder (wsj jyCoder jcCoder 1 (some .byte)) (jrm 0 0) (va_Pc [.ref (G.2.2 i)] (PreJ G sz)) (jQi 0 sz) 0 0 (va_A [] sz) := by
  refine Met.ofW (cc := jcCoder) (maxL := 1) (ret := (some .byte)) (by decide) rfl ?_
  intro p e s m args below meth c s₁ B hml hv
  obtain ⟨rfl, hsz, hTX⟩ := hv
  have hx := B.exec
  have hb := B.bytes
  have hr := B.returns
  have hts0 := atoms_spec (ws := wsj jyCoder jcCoder 1 (some .byte)) B.pre
  have hts : ∀ w ∈ gw, w.before _ s = true := fun w hw => hts0 w (List.mem_cons_of_mem _ hw)
  have hown : s.vm.findClass "java/lang/String" = some m.cls := findClass_of_methodNamed B.named
  have hlocks := B.notSynchronized
  subst hsz
  have hl := lv_entry ([.ref (G.2.2 i)]) (n := 1) (Nat.le_of_ble_eq_true rfl)
  rw [lg_entry_eq]
  generalize (lg_sl ([.ref (G.2.2 i)]) ++ List.replicate (1 - (lg_sl ([.ref (G.2.2 i)])).length) Slot.unset).toArray = ls at hl ⊢
  have hl : lv_has ls 1 [(0, .ref (G.2.2 i))] := hl
  have hS : va_S (va_A [] s.heap.size) s.heap s.heap [] := va_S.rf
  have hTX0 := hTX
  obtain ⟨⟨adV, hV⟩, hZ, hZq⟩ := hTX
  obtain ⟨hO, hF1, hF2, hT⟩ := hV i hi
  refine va_gets hx hb hZ hS hown (hts _ jg_2) (fun _ h => h) jd_coder_0 ?_
  refine lv_if_eq (tgt := 13) hx hb jd_coder_3 (by decide) (fun h => absurd h (by decide)) (fun _ => ?_)
  refine lv_aload_n hx hb jd_coder_6 rfl (lv_at hl 0 rfl) ?_
  refine vk_getf hx hb hF1 hS hown (hts _ jg_1) (fun _ h => h) jd_coder_7 ?_
  refine lv_goto (tgt := 14) hx hb jd_coder_10 (by decide) ?_
  exact W.zret hx hb hr rfl (fun t ht _ => ⟨⟨0, (), rfl, rfl, trivial⟩, hS.F ht⟩) hS.2.2 jd_coder_14

theorem j_latin (l : Launch) (G : GT) (sz : Nat) {i : Nat} (hi : i < 16) : Met l jyLatin (wsj jyLatin jcLatin 1 (some .boolean)) (jrm 0 0) (va_Pc [.ref (G.2.2 i)] (PreJ G sz)) (jQi 1 sz) 0 0 (va_A [] sz) := by
  refine Met.ofW (cc := jcLatin) (maxL := 1) (ret := (some .boolean)) (by decide) rfl ?_
  intro p e s m args below meth c s₁ B hml hv
  obtain ⟨rfl, hsz, hTX⟩ := hv
  have hx := B.exec
  have hb := B.bytes
  have hr := B.returns
  have hts0 := atoms_spec (ws := wsj jyLatin jcLatin 1 (some .boolean)) B.pre
  have hts : ∀ w ∈ gw, w.before _ s = true := fun w hw => hts0 w (List.mem_cons_of_mem _ hw)
  have hown : s.vm.findClass "java/lang/String" = some m.cls := findClass_of_methodNamed B.named
  have hlocks := B.notSynchronized
  subst hsz
  have hl := lv_entry ([.ref (G.2.2 i)]) (n := 1) (Nat.le_of_ble_eq_true rfl)
  rw [lg_entry_eq]
  generalize (lg_sl ([.ref (G.2.2 i)]) ++ List.replicate (1 - (lg_sl ([.ref (G.2.2 i)])).length) Slot.unset).toArray = ls at hl ⊢
  have hl : lv_has ls 1 [(0, .ref (G.2.2 i))] := hl
  have hS : va_S (va_A [] s.heap.size) s.heap s.heap [] := va_S.rf
  have hTX0 := hTX
  obtain ⟨⟨adV, hV⟩, hZ, hZq⟩ := hTX
  obtain ⟨hO, hF1, hF2, hT⟩ := hV i hi
  refine va_gets hx hb hZ hS hown (hts _ jg_2) (fun _ h => h) jd_latin_0 ?_
  refine lv_if_eq (tgt := 17) hx hb jd_latin_3 (by decide) (fun h => absurd h (by decide)) (fun _ => ?_)
  refine lv_aload_n hx hb jd_latin_6 rfl (lv_at hl 0 rfl) ?_
  refine vk_getf hx hb hF1 hS hown (hts _ jg_1) (fun _ h => h) jd_latin_7 ?_
  refine lv_if_ne (tgt := 17) hx hb jd_latin_10 (by decide) (fun h => absurd rfl h) (fun _ => ?_)
  refine lv_iconst (v := 1) hx hb jd_latin_13 (by decide) ?_
  refine lv_goto (tgt := 18) hx hb jd_latin_14 (by decide) ?_
  exact W.zret hx hb hr rfl (fun t ht _ => ⟨⟨1, (), rfl, rfl, trivial⟩, hS.F ht⟩) hS.2.2 jd_latin_18

theorem j_len (l : Launch) (G : GT) (sz : Nat) {i : Nat} (hi : i < 16) : Met l jyLen (wsj jyLen jcLen 1 (some .int)) (jrm 1 20) (va_Pc [.ref (G.2.2 i)] (PreJ G sz)) (jQi (Int32.ofInt (sLen i)) sz) 0 0 (va_A [] sz) := by
  refine Met.ofW (cc := jcLen) (maxL := 1) (ret := (some .int)) (by decide) rfl ?_
  intro p e s m args below meth c s₁ B hml hv
  obtain ⟨rfl, hsz, hTX⟩ := hv
  have hx := B.exec
  have hb := B.bytes
  have hr := B.returns
  have hts0 := atoms_spec (ws := wsj jyLen jcLen 1 (some .int)) B.pre
  have hts : ∀ w ∈ gw, w.before _ s = true := fun w hw => hts0 w (List.mem_cons_of_mem _ hw)
  have hown : s.vm.findClass "java/lang/String" = some m.cls := findClass_of_methodNamed B.named
  have hlocks := B.notSynchronized
  subst hsz
  have hl := lv_entry ([.ref (G.2.2 i)]) (n := 1) (Nat.le_of_ble_eq_true rfl)
  rw [lg_entry_eq]
  generalize (lg_sl ([.ref (G.2.2 i)]) ++ List.replicate (1 - (lg_sl ([.ref (G.2.2 i)])).length) Slot.unset).toArray = ls at hl ⊢
  have hl : lv_has ls 1 [(0, .ref (G.2.2 i))] := hl
  have hS : va_S (va_A [] s.heap.size) s.heap s.heap [] := va_S.rf
  have hTX0 := hTX
  obtain ⟨⟨adV, hV⟩, hZ, hZq⟩ := hTX
  obtain ⟨hO, hF1, hF2, hT⟩ := hV i hi
  refine lv_aload_n hx hb jd_len_0 rfl (lv_at hl 0 rfl) ?_
  refine vk_getf hx hb hF2 hS hown (hts _ jg_0) (fun _ h => h) jd_len_1 ?_
  refine va_tlen hx hb hT hS rfl jd_len_4 ?_
  refine lv_aload_n hx hb jd_len_5 rfl (lv_at hl 0 rfl) ?_
  refine va_calli (va_runV (C := "java/lang/String") (As := []) (rest := [.int (Int32.ofNat (lenS.getD i 0))]) ⟨hx, hb, hml, hown, hts⟩ (j_coder l G s.heap.size hi) ⟨⟨rfl, rfl, Nat.le_of_ble_eq_true rfl, Nat.le_of_ble_eq_true rfl, wsj_warm hts jg_6, List.mem_cons_self, hts _ jg_6, hts _ ji_0, by decide, parse_len (n := 0) (by decide +kernel), hts _ jg_3⟩, hts _ jg_4, hts _ jg_5⟩ ⟨blindJ _, recvT hO, preJ (fun _ h => h) rfl hTX0⟩ rfl rfl hl.1 rfl (lv_room (Nat.le_of_ble_eq_true rfl)) jd_len_6 ⟨Nat.zero_le _, Nat.zero_le _⟩) hS (fun q _ h => h) (fun q h => h) (fun r u t H1 locs1 ht hvm hw hB hz1 hk1 hS => ?_)
  refine lv_ishr hx hb jd_len_9 ?_
  have e1 := (of_decide_eq_true (allR_at 16 0 i len_all (by omega) (by omega))).1
  rw [hw, e1]
  exact W.iret hx hb hr (fun t ht _ => ⟨⟨_, (), rfl, rfl, trivial⟩, hS.F ht⟩) hS.2.2 jd_len_10

theorem j_pchkN (l : Launch) (G : GT) (sz : Nat) {a n : Int32} (ha : ¬ a < 0) (hn : a < n) : Met l jyPchk (wsj jyPchk jcPchk 3 (some .int)) (jrm 0 0) (va_Pc [.int a, .int n, .null] (PreJ G sz)) (jQi a sz) 0 0 (va_A [] sz) := by
  refine Met.ofW (cc := jcPchk) (maxL := 3) (ret := (some .int)) (by decide) rfl ?_
  intro p e s m args below meth c s₁ B hml hv
  obtain ⟨rfl, hsz, hTX⟩ := hv
  have hx := B.exec
  have hb := B.bytes
  have hr := B.returns
  have hts0 := atoms_spec (ws := wsj jyPchk jcPchk 3 (some .int)) B.pre
  have hts : ∀ w ∈ gw, w.before _ s = true := fun w hw => hts0 w (List.mem_cons_of_mem _ hw)
  have hown : s.vm.findClass "jdk/internal/util/Preconditions" = some m.cls := findClass_of_methodNamed B.named
  have hlocks := B.notSynchronized
  subst hsz
  have hl := lv_entry ([.int a, .int n, .null]) (n := 3) (Nat.le_of_ble_eq_true rfl)
  rw [lg_entry_eq]
  generalize (lg_sl ([.int a, .int n, .null]) ++ List.replicate (3 - (lg_sl ([.int a, .int n, .null])).length) Slot.unset).toArray = ls at hl ⊢
  have hl : lv_has ls 3 [(0, .int a), (1, .int n), (2, .null)] := hl
  have hS : va_S (va_A [] s.heap.size) s.heap s.heap [] := va_S.rf
  have hTX0 := hTX
  obtain ⟨⟨adV, hV⟩, hZ, hZq⟩ := hTX
  refine lv_iload_n hx hb jd_pchk_0 rfl (lv_at hl 0 rfl) ?_
  refine lv_if_lt (tgt := 9) hx hb jd_pchk_1 (by decide) (fun h => absurd h ha) (fun _ => ?_)
  refine lv_iload_n hx hb jd_pchk_4 rfl (lv_at hl 0 rfl) ?_
  refine lv_iload_n hx hb jd_pchk_5 rfl (lv_at hl 1 rfl) ?_
  refine lv_icmp_lt (tgt := 16) hx hb jd_pchk_6 (by decide) (fun _ => ?_) (fun h => absurd hn h)
  refine lv_iload_n hx hb jd_pchk_16 rfl (lv_at hl 0 rfl) ?_
  exact W.iret hx hb hr (fun t ht _ => ⟨⟨_, (), rfl, rfl, trivial⟩, hS.F ht⟩) hS.2.2 jd_pchk_17

theorem j_pchkR (l : Launch) (G : GT) (sz : Nat) {a n : Int32} {t0 : Nat} (ha : ¬ a < 0) (hn : a < n) : Met l jyPchk (wsj jyPchk jcPchk 3 (some .int)) (jrm 0 0) (va_Pc [.int a, .int n, .ref t0] (PreJ G sz)) (jQi a sz) 0 0 (va_A [] sz) := by
  refine Met.ofW (cc := jcPchk) (maxL := 3) (ret := (some .int)) (by decide) rfl ?_
  intro p e s m args below meth c s₁ B hml hv
  obtain ⟨rfl, hsz, hTX⟩ := hv
  have hx := B.exec
  have hb := B.bytes
  have hr := B.returns
  have hts0 := atoms_spec (ws := wsj jyPchk jcPchk 3 (some .int)) B.pre
  have hts : ∀ w ∈ gw, w.before _ s = true := fun w hw => hts0 w (List.mem_cons_of_mem _ hw)
  have hown : s.vm.findClass "jdk/internal/util/Preconditions" = some m.cls := findClass_of_methodNamed B.named
  have hlocks := B.notSynchronized
  subst hsz
  have hl := lv_entry ([.int a, .int n, .ref t0]) (n := 3) (Nat.le_of_ble_eq_true rfl)
  rw [lg_entry_eq]
  generalize (lg_sl ([.int a, .int n, .ref t0]) ++ List.replicate (3 - (lg_sl ([.int a, .int n, .ref t0])).length) Slot.unset).toArray = ls at hl ⊢
  have hl : lv_has ls 3 [(0, .int a), (1, .int n), (2, .ref t0)] := hl
  have hS : va_S (va_A [] s.heap.size) s.heap s.heap [] := va_S.rf
  have hTX0 := hTX
  obtain ⟨⟨adV, hV⟩, hZ, hZq⟩ := hTX
  refine lv_iload_n hx hb jd_pchk_0 rfl (lv_at hl 0 rfl) ?_
  refine lv_if_lt (tgt := 9) hx hb jd_pchk_1 (by decide) (fun h => absurd h ha) (fun _ => ?_)
  refine lv_iload_n hx hb jd_pchk_4 rfl (lv_at hl 0 rfl) ?_
  refine lv_iload_n hx hb jd_pchk_5 rfl (lv_at hl 1 rfl) ?_
  refine lv_icmp_lt (tgt := 16) hx hb jd_pchk_6 (by decide) (fun _ => ?_) (fun h => absurd hn h)
  refine lv_iload_n hx hb jd_pchk_16 rfl (lv_at hl 0 rfl) ?_
  exact W.iret hx hb hr (fun t ht _ => ⟨⟨_, (), rfl, rfl, trivial⟩, hS.F ht⟩) hS.2.2 jd_pchk_17

theorem j_chk (l : Launch) (G : GT) (sz : Nat) {a n : Int32} (ha : ¬ a < 0) (hn : a < n) : Met l jyChk (wsj jyChk jcChk 2 none) (jrm 1 22) (va_Pc [.int a, .int n] (PreJ G sz)) (va_Qv (fun (_ : Unit) => True) (fun _ _ => True) (va_A [] sz)) 0 0 (va_A [] sz) := by
  refine Met.ofW (cc := jcChk) (maxL := 2) (ret := none) (by decide) rfl ?_
  intro p e s m args below meth c s₁ B hml hv
  obtain ⟨rfl, hsz, hTX⟩ := hv
  have hx := B.exec
  have hb := B.bytes
  have hr := B.returns
  have hts0 := atoms_spec (ws := wsj jyChk jcChk 2 none) B.pre
  have hts : ∀ w ∈ gw, w.before _ s = true := fun w hw => hts0 w (List.mem_cons_of_mem _ hw)
  have hown : s.vm.findClass "java/lang/String" = some m.cls := findClass_of_methodNamed B.named
  have hlocks := B.notSynchronized
  subst hsz
  have hl := lv_entry ([.int a, .int n]) (n := 2) (Nat.le_of_ble_eq_true rfl)
  rw [lg_entry_eq]
  generalize (lg_sl ([.int a, .int n]) ++ List.replicate (2 - (lg_sl ([.int a, .int n])).length) Slot.unset).toArray = ls at hl ⊢
  have hl : lv_has ls 2 [(0, .int a), (1, .int n)] := hl
  have hS : va_S (va_A [] s.heap.size) s.heap s.heap [] := va_S.rf
  have hTX0 := hTX
  obtain ⟨⟨adV, hV⟩, hZ, hZq⟩ := hTX
  refine lv_iload_n hx hb jd_chk_0 rfl (lv_at hl 0 rfl) ?_
  refine lv_iload_n hx hb jd_chk_1 rfl (lv_at hl 1 rfl) ?_
  rcases hZq with hZ1 | ⟨t0, hZ1⟩
  · refine va_gets hx hb hZ1 hS hown (hts _ jg_23) (fun _ h => h) jd_chk_2 ?_
    refine va_calli (va_runS (As := [.int a, .int n, .null]) (rest := []) ⟨hx, hb, hml, hown, hts⟩ (j_pchkN l G s.heap.size ha hn) ⟨⟨rfl, rfl, Nat.le_of_ble_eq_true rfl, Nat.le_of_ble_eq_true rfl, wsj_warm hts jg_26, List.mem_cons_self, hts _ jg_26, hts _ ji_2, by decide, parse_len (n := 3) (by decide +kernel), hts _ jg_24⟩, hts _ jg_25⟩ ⟨blindJ _, preJ (fun _ h => h) rfl hTX0⟩ rfl rfl hl.1 rfl (lv_room (Nat.le_of_ble_eq_true rfl)) jd_chk_5 ⟨Nat.zero_le _, Nat.zero_le _⟩) hS (fun q _ h => h) (fun q h => h) (fun r u t H1 locs1 ht hvm hw hB hz1 hk1 hS => ?_)
    refine lv_pop hx hb jd_chk_8 rfl ?_
    exact W.vret hx hb hr (fun t ht _ => ⟨⟨(), rfl, trivial, trivial⟩, hS.F ht⟩) hS.2.2 jd_chk_9
  · refine va_gets hx hb hZ1 hS hown (hts _ jg_23) (fun _ h => h) jd_chk_2 ?_
    refine va_calli (va_runS (As := [.int a, .int n, .ref t0]) (rest := []) ⟨hx, hb, hml, hown, hts⟩ (j_pchkR l G s.heap.size (t0 := t0) ha hn) ⟨⟨rfl, rfl, Nat.le_of_ble_eq_true rfl, Nat.le_of_ble_eq_true rfl, wsj_warm hts jg_26, List.mem_cons_self, hts _ jg_26, hts _ ji_2, by decide, parse_len (n := 3) (by decide +kernel), hts _ jg_24⟩, hts _ jg_25⟩ ⟨blindJ _, preJ (fun _ h => h) rfl hTX0⟩ rfl rfl hl.1 rfl (lv_room (Nat.le_of_ble_eq_true rfl)) jd_chk_5 ⟨Nat.zero_le _, Nat.zero_le _⟩) hS (fun q _ h => h) (fun q h => h) (fun r u t H1 locs1 ht hvm hw hB hz1 hk1 hS => ?_)
    refine lv_pop hx hb jd_chk_8 rfl ?_
    exact W.vret hx hb hr (fun t ht _ => ⟨⟨(), rfl, trivial, trivial⟩, hS.F ht⟩) hS.2.2 jd_chk_9

theorem j_lchr (l : Launch) (G : GT) (sz : Nat) {i j a : Nat} (hi : i < 16) (hj : j < lenS.getD i 0) : Met l jyLchr (wsj jyLchr jcLchr 2 (some .char)) (jrm 2 43) (va_Pc [.ref a, .int (Int32.ofNat j)] (PreL G i a sz)) (jQi (Int32.ofInt (sChr i j)) sz) 0 0 (va_A [] sz) := by
  refine Met.ofW (cc := jcLchr) (maxL := 2) (ret := (some .char)) (by decide) rfl ?_
  intro p e s m args below meth c s₁ B hml hv
  obtain ⟨rfl, ⟨hsz, hTX⟩, hT⟩ := hv
  have hx := B.exec
  have hb := B.bytes
  have hr := B.returns
  have hts0 := atoms_spec (ws := wsj jyLchr jcLchr 2 (some .char)) B.pre
  have hts : ∀ w ∈ gw, w.before _ s = true := fun w hw => hts0 w (List.mem_cons_of_mem _ hw)
  have hown : s.vm.findClass "java/lang/StringLatin1" = some m.cls := findClass_of_methodNamed B.named
  have hlocks := B.notSynchronized
  subst hsz
  have hl := lv_entry ([.ref a, .int (Int32.ofNat j)]) (n := 2) (Nat.le_of_ble_eq_true rfl)
  rw [lg_entry_eq]
  generalize (lg_sl ([.ref a, .int (Int32.ofNat j)]) ++ List.replicate (2 - (lg_sl ([.ref a, .int (Int32.ofNat j)])).length) Slot.unset).toArray = ls at hl ⊢
  have hl : lv_has ls 2 [(0, .ref a), (1, .int (Int32.ofNat j))] := hl
  have hS : va_S (va_A [] s.heap.size) s.heap s.heap [] := va_S.rf
  have hTX0 := hTX
  obtain ⟨⟨adV, hV⟩, hZ, hZq⟩ := hTX
  obtain ⟨-, e2, e3⟩ := of_decide_eq_true (allR_at 16 0 i len_all (by omega) (by omega))
  obtain ⟨f1, f2⟩ := of_decide_eq_true (allR_at (lenS.getD i 0) 0 j (allR_at 16 0 i chr_all (by omega) (by omega)) (by omega) (by omega))
  have hjc : (Int32.ofNat j).toNatClampNeg = j := Int32.toNatClampNeg_ofNat_of_lt (by omega)
  have hj0 : ¬ Int32.ofNat j < 0 := nI_pos (by omega)
  have hjn : Int32.ofNat j < Int32.ofNat (lenS.getD i 0) := nI_lt hj (by omega)
  refine lv_iload_n hx hb jd_lchr_0 rfl (lv_at hl 1 rfl) ?_
  refine lv_aload_n hx hb jd_lchr_1 rfl (lv_at hl 0 rfl) ?_
  refine va_tlen hx hb hT hS rfl jd_lchr_2 ?_
  refine va_callv (va_runS (As := [.int (Int32.ofNat j), .int (Int32.ofNat (lenS.getD i 0))]) (rest := []) ⟨hx, hb, hml, hown, hts⟩ (j_chk l G s.heap.size hj0 hjn) ⟨⟨rfl, rfl, Nat.le_of_ble_eq_true rfl, Nat.le_of_ble_eq_true rfl, wsj_warm hts jg_22, List.mem_cons_self, hts _ jg_22, hts _ ji_0, by decide, parse_len (n := 2) (by decide +kernel), hts _ jg_20⟩, hts _ jg_21⟩ ⟨blindJ _, preJ (fun _ h => h) rfl hTX0⟩ rfl rfl hl.1 rfl (lv_room (Nat.le_of_ble_eq_true rfl)) jd_lchr_3 ⟨Nat.zero_le _, Nat.zero_le _⟩) hS (fun q _ h => h) (fun q h => h) (fun u t H1 locs1 ht hvm hw hB hz1 hk1 hS => ?_)
  refine lv_aload_n hx hb jd_lchr_6 rfl (lv_at hl 0 rfl) ?_
  refine lv_iload_n hx hb jd_lchr_7 rfl (lv_at hl 1 rfl) ?_
  refine va_tb hx hb hT hS (v := .int ((bytS.getD i []).getD j 0)) (vp_in_nI hj (by omega)) (by show Value.int ((bytS.getD i []).getD (Int32.ofNat j).toNatClampNeg 0) = _; rw [hjc]) jd_lchr_8 ?_
  refine lv_sipush (v := 255) hx hb jd_lchr_9 (by decide) ?_
  refine lv_iand hx hb jd_lchr_12 ?_
  refine lv_i2c hx hb jd_lchr_13 f1 ?_
  exact W.zret hx hb hr (by show Value.int ((Int32.ofInt (sChr i j)).toUInt32 % 65536).toInt32 = _; rw [f2]) (fun t ht _ => ⟨⟨_, (), rfl, rfl, trivial⟩, hS.F ht⟩) hS.2.2 jd_lchr_14

theorem j_chr (l : Launch) (G : GT) (sz : Nat) {i j : Nat} (hi : i < 16) (hj : j < lenS.getD i 0) : Met l jyChr (wsj jyChr jcChr 2 (some .char)) (jrm 3 64) (va_Pc [.ref (G.2.2 i), .int (Int32.ofNat j)] (PreJ G sz)) (jQi (Int32.ofInt (sChr i j)) sz) 0 0 (va_A [] sz) := by
  refine Met.ofW (cc := jcChr) (maxL := 2) (ret := (some .char)) (by decide) rfl ?_
  intro p e s m args below meth c s₁ B hml hv
  obtain ⟨rfl, hsz, hTX⟩ := hv
  have hx := B.exec
  have hb := B.bytes
  have hr := B.returns
  have hts0 := atoms_spec (ws := wsj jyChr jcChr 2 (some .char)) B.pre
  have hts : ∀ w ∈ gw, w.before _ s = true := fun w hw => hts0 w (List.mem_cons_of_mem _ hw)
  have hown : s.vm.findClass "java/lang/String" = some m.cls := findClass_of_methodNamed B.named
  have hlocks := B.notSynchronized
  subst hsz
  have hl := lv_entry ([.ref (G.2.2 i), .int (Int32.ofNat j)]) (n := 2) (Nat.le_of_ble_eq_true rfl)
  rw [lg_entry_eq]
  generalize (lg_sl ([.ref (G.2.2 i), .int (Int32.ofNat j)]) ++ List.replicate (2 - (lg_sl ([.ref (G.2.2 i), .int (Int32.ofNat j)])).length) Slot.unset).toArray = ls at hl ⊢
  have hl : lv_has ls 2 [(0, .ref (G.2.2 i)), (1, .int (Int32.ofNat j))] := hl
  have hS : va_S (va_A [] s.heap.size) s.heap s.heap [] := va_S.rf
  have hTX0 := hTX
  obtain ⟨⟨adV, hV⟩, hZ, hZq⟩ := hTX
  obtain ⟨hO, hF1, hF2, hT⟩ := hV i hi
  obtain ⟨f1, f2⟩ := of_decide_eq_true (allR_at (lenS.getD i 0) 0 j (allR_at 16 0 i chr_all (by omega) (by omega)) (by omega) (by omega))
  refine lv_aload_n hx hb jd_chr_0 rfl (lv_at hl 0 rfl) ?_
  refine va_calli (va_runV (C := "java/lang/String") (As := []) (rest := []) ⟨hx, hb, hml, hown, hts⟩ (j_latin l G s.heap.size hi) ⟨⟨rfl, rfl, Nat.le_of_ble_eq_true rfl, Nat.le_of_ble_eq_true rfl, wsj_warm hts jg_13, List.mem_cons_self, hts _ jg_13, hts _ ji_0, by decide, parse_len (n := 0) (by decide +kernel), hts _ jg_10⟩, hts _ jg_11, hts _ jg_12⟩ ⟨blindJ _, recvT hO, preJ (fun _ h => h) rfl hTX0⟩ rfl rfl hl.1 rfl (lv_room (Nat.le_of_ble_eq_true rfl)) jd_chr_1 ⟨Nat.zero_le _, Nat.zero_le _⟩) hS (fun q _ h => h) (fun q h => h) (fun r u t H1 locs1 ht hvm hw hB hz1 hk1 hS => ?_)
  rw [hw]
  refine lv_if_eq (tgt := 16) hx hb jd_chr_4 (by decide) (fun h => absurd h (by decide)) (fun _ => ?_)
  refine lv_aload_n hx hb jd_chr_7 rfl (lv_at hl 0 rfl) ?_
  refine vk_getf hx hb hF2 hS hown (hts _ jg_0) (fun _ h => h) jd_chr_8 ?_
  refine lv_iload_n hx hb jd_chr_11 rfl (lv_at hl 1 rfl) ?_
  have hT1 := hT.kept hS.2.1
  refine va_calli (va_runS (As := [.ref (adV i), .int (Int32.ofNat j)]) (rest := []) ⟨hx, hb, hml, hown, hts⟩ (j_lchr l G H1.size (a := adV i) hi hj) ⟨⟨rfl, rfl, Nat.le_of_ble_eq_true rfl, Nat.le_of_ble_eq_true rfl, wsj_warm hts jg_19, List.mem_cons_self, hts _ jg_19, hts _ ji_1, by decide, parse_len (n := 2) (by decide +kernel), hts _ jg_17⟩, hts _ jg_18⟩ ⟨blindL _, fun U hU hW => ⟨rfl, ⟨by rw [hU], by rw [hU]; exact TXc.moved hW.alike ((hTX0.kept hS.2.1).narrow (jA hS.1))⟩, by rw [hU]; exact va_T.moved hW.alike (hT1.narrow (jA hS.1))⟩⟩ rfl rfl hl.1 rfl (lv_room (Nat.le_of_ble_eq_true rfl)) jd_chr_12 ⟨Nat.zero_le _, Nat.zero_le _⟩) hS (fun q _ h => jA hS.1 q h) (fun q h => jA hS.1 q h) (fun r u t H2 locs2 ht hvm hw hB hz1 hk1 hS => ?_)
  rw [hw]
  exact W.zret hx hb hr (by show Value.int ((Int32.ofInt (sChr i j)).toUInt32 % 65536).toInt32 = _; rw [f2]) (fun t ht _ => ⟨⟨_, (), rfl, rfl, trivial⟩, hS.F ht⟩) hS.2.2 jd_chr_15
end JDK
end
section
/-! TEXTS: length, charAt; and THE WALK -/
section WALK
variable {N m : Nat} {G : GT} {b : Nat} {xs : Nat → Int32} {out : Out}
variable {p : Program} {l : Launch} {e : Env} {R : Room} {s : State} {mid : MethodId} {args : Array Value} {below : List Frame} {meth : Method} {c : Code} {A : Nat → Prop} {H0 : Heap} {Q : State → Prop}
variable {F pc : Nat} {L st : List MV} {S : MS} {ad : AdT} {H : Heap} {locs : List Loc} {cells slots : Nat} {ls : Array Slot}
theorem ofInt_nat (n : Nat) : Int32.ofInt (n : Int) = Int32.ofNat n := by
  first
    | exact Int32.ofInt_eq_ofNat
    | rfl
    | (rw [← Int32.toInt_inj]; simp)
theorem ord_lt {a : Nat} {q : Nat × Nat} (h : nth ords a = some q) : q.1 < 999 := (ords_kd h).1
/-- a text that is a value is one of the sixteen -/
theorem okV_tx {n i : Nat} (h : okV n (vR 1000 i)) : i < 16 := by
  rcases h with ⟨a, ha, ho⟩ | h | ⟨-, h⟩
  · have := ord_lt ho
    dsimp only at this
    omega
  · cases h
  · exact h
/-- behind a call that makes and writes nothing of ours -/
theorem wd_still {H1 : Heap} {locs1 : List Loc} (hW : Wd N G b xs A H0 S ad H locs) (hk : ∀ q : Nat, q < H.size → ¬ va_A [] H.size q → H1[q]? = H[q]?) (hS : va_S A H0 H1 locs1) : Wd N G b xs A H0 S ad H1 locs1 := by
  obtain ⟨w1, w2, w3, w4⟩ := hW
  refine ⟨fun i q hi => (w1 i q hi).kept (hk q.1 (w1 i q hi).lt ?_), w2, hS, w4⟩
  rintro (⟨k, e, h⟩ | h)
  · simp at h
  · have := (w1 i q hi).lt
    omega
theorem s_slen (hC : Cx N m G b xs p R s mid args meth c A H0) (ih : IH N F m G b xs out p l e R s mid args below meth c A H0 Q) (hH : Here N m G b xs out p l e R s mid args below meth c A H0 Q L st S ad H locs cells slots ls)
    {raw : Instr} {len : Nat} (hd : decode (mCode m) (bpc m pc) = .ok (raw, len)) (hn : bpc m (pc + 1) = bpc m pc + len) (hlen : lenOf raw = 0 ∨ len = lenOf raw) (hz : rz m (bpc m pc) raw .ddiv = true)
    (he : x_slen pc L st S (exec N F m) none = some out) : W p l e R s mid args below meth c H locs cells slots Q (F0 mid (bpc m pc) ls (st.map (toV ad))) := by
  obtain ⟨hm264, hx, hb, hml, hown, hts, hini, hfr, hlo, hGS, hA, hX, hbl, hbA, hTX, hN⟩ := hC
  unfold x_slen at he
  rcases st with _ | ⟨(x | (x | (⟨k, i⟩ | x))), st⟩ <;> first | (cases he; done) | skip
  have hv := okh hH.2.2.1
  have hr := okt hH.2.2.1
  dsimp only at he
  rcases g1 : Nat.beq k 1000 with _ | _ <;> rw [g1] at he <;> first | (cases he; done) | skip
  rw [cond_true] at he
  rcases g3 : Nat.ble (wordsOf st) 8 with _ | _ <;> rw [g3] at he <;> first | (cases he; done) | skip
  rw [cond_true] at he
  have hi : i < 16 := by
    have e1 := Nat.eq_of_beq_eq_true g1
    subst e1
    exact okV_tx hv
  obtain ⟨-, l1, l2⟩ := of_decide_eq_true (allR_at 16 0 i len_all (by omega) (by omega))
  have hin : in32 (sLen i) := by unfold in32; omega
  have g1 := Nat.eq_of_beq_eq_true g1
  subst g1
  have g3 := Nat.le_of_ble_eq_true g3
  unfold rz at hz
  dsimp only at hz
  split at hz
  · rename_i idx
    obtain ⟨h1, h2⟩ := band_t hz
    obtain ⟨h1, h3⟩ := roomI_t h1
    rcases hlen with h | h
    · cases h
    rw [h] at hd hn
    have w1 := hts _ (gw_of h2 rfl)
    rw [wd_24] at w1
    have hF : ∀ q, va_A [] H.size q → A q := by
      rintro q (⟨k, e, h⟩ | h)
      · simp at h
      · exact hA q (Nat.le_trans hH.1.2.2.1.1 h)
    have hTX1 := hTX.kept hH.1.2.2.1.2.1
    have hTX2 := hTX1.narrow hF
    obtain ⟨⟨adV, hV⟩, hZ, hZq⟩ := id hTX1
    obtain ⟨hO, hF1, hF2, hT⟩ := hV i hi
    have hcells := hH.2.2.2.2.2.2.1
    have hslots := hH.2.2.2.2.2.2.2.1
    have hmono := exec_n _ _ _ _ _ _ _ he
    have hsl := slN_mono hmono
    have hw5 := hH.1.2.2.2.2.1 i hi
    have est : (vR 1000 i :: st).map (toV ad) = .ref (G.2.2 i) :: st.map (toV ad) := by
      rw [List.map_cons, ← hw5]
      rfl
    rw [est]
    have hmon : 2 * 0 + ((st.map (toV ad)).map fun v => v.category).sum ≤ 8 := by
      rw [words_eq]
      omega
    refine va_calli (va_runV (C := "java/lang/String") (As := []) (rest := st.map (toV ad)) ⟨hx, hb, hml, hown, hts⟩ (j_len l G H.size hi) ⟨⟨rfl, rfl, by show 1 + 1 ≤ R.frames; omega, by show 8 + (1 + 11) + 20 ≤ R.locals; omega, wsj_warm hts jg_9, List.mem_cons_self, hts _ jg_9, hts _ ji_0, by decide, parse_len (n := 0) (by decide +kernel), w1⟩, hts _ jg_7, hts _ jg_8⟩ ⟨blindJ _, recvT hO, fun U hU hW => ⟨rfl, by rw [hU], by rw [hU]; exact TXc.moved hW.alike hTX2⟩⟩ rfl rfl (hH.2.2.2.2.1.1.trans hH.2.2.2.2.2.1) rfl hmon hd ⟨by omega, by omega⟩) hH.1.2.2.1 (fun q _ h => hF q h) hF (fun r u t H1 locs1 ht hvm hw hB hz1 hk1 hS => ?_)
    rw [hw]
    have k0 := ih (pc + 1) L (vI (sLen i) :: st) S ad H1 locs1 cells slots ls he ⟨wd_still hH.1 hk1 hS, hH.2.1, ok1 (show okV S.1 (vI (sLen i)) from hin) hr, hH.2.2.2.1, hH.2.2.2.2.1, hH.2.2.2.2.2.1, hH.2.2.2.2.2.2.1, hH.2.2.2.2.2.2.2.1, hH.2.2.2.2.2.2.2.2⟩
    rw [hn] at k0
    exact k0
  · cases hz
theorem chin_all : allR (fun i => allR (fun j => decide (0 ≤ sChr i j ∧ sChr i j < 128)) 0 (lenS.getD i 0)) 0 16 = true := by decide +kernel
theorem chr_in {i j : Nat} (hi : i < 16) (hj : j < lenS.getD i 0) : in32 (sChr i j) := by
  have h := of_decide_eq_true (allR_at (lenS.getD i 0) 0 j (allR_at 16 0 i chin_all (by omega) (by omega)) (by omega) (by omega))
  unfold in32
  omega
theorem s_schr (hC : Cx N m G b xs p R s mid args meth c A H0) (ih : IH N F m G b xs out p l e R s mid args below meth c A H0 Q) (hH : Here N m G b xs out p l e R s mid args below meth c A H0 Q L st S ad H locs cells slots ls)
    {raw : Instr} {len : Nat} (hd : decode (mCode m) (bpc m pc) = .ok (raw, len)) (hn : bpc m (pc + 1) = bpc m pc + len) (hlen : lenOf raw = 0 ∨ len = lenOf raw) (hz : rz m (bpc m pc) raw .drem = true)
    (he : x_schr pc L st S (exec N F m) none = some out) : W p l e R s mid args below meth c H locs cells slots Q (F0 mid (bpc m pc) ls (st.map (toV ad))) := by
  obtain ⟨hm264, hx, hb, hml, hown, hts, hini, hfr, hlo, hGS, hA, hX, hbl, hbA, hTX, hN⟩ := hC
  unfold x_schr at he
  rcases st with _ | ⟨(j | (j | (j | j))), _ | ⟨(x | (x | (⟨k, i⟩ | x))), st⟩⟩ <;> first | (cases he; done) | skip
  have hvj := okh hH.2.2.1
  have hv := okh (okt hH.2.2.1)
  have hr := okt (okt hH.2.2.1)
  dsimp only at he
  rcases g1 : Nat.beq k 1000 with _ | _ <;> rw [g1] at he <;> first | (cases he; done) | skip
  rw [cond_true] at he
  by_cases b1 : j < 0
  · rw [if_pos b1] at he; cases he
  rw [if_neg b1] at he
  by_cases b2 : j < sLen i
  case neg => rw [if_neg b2] at he; cases he
  rw [if_pos b2] at he
  rcases g3 : Nat.ble (wordsOf st) 8 with _ | _ <;> rw [g3] at he <;> first | (cases he; done) | skip
  rw [cond_true] at he
  have hi : i < 16 := by
    have e1 := Nat.eq_of_beq_eq_true g1
    subst e1
    exact okV_tx hv
  obtain ⟨-, l1, l2⟩ := of_decide_eq_true (allR_at 16 0 i len_all (by omega) (by omega))
  have hj : j.toNat < lenS.getD i 0 := by omega
  have hin : in32 (sChr i j.toNat) := chr_in hi hj
  have g1 := Nat.eq_of_beq_eq_true g1
  subst g1
  have g3 := Nat.le_of_ble_eq_true g3
  unfold rz at hz
  dsimp only at hz
  split at hz
  · rename_i idx
    obtain ⟨h1, h2⟩ := band_t hz
    obtain ⟨h1, h3⟩ := roomI_t h1
    rcases hlen with h | h
    · cases h
    rw [h] at hd hn
    have w1 := hts _ (gw_of h2 rfl)
    rw [wd_25] at w1
    have hF : ∀ q, va_A [] H.size q → A q := by
      rintro q (⟨k, e, h⟩ | h)
      · simp at h
      · exact hA q (Nat.le_trans hH.1.2.2.1.1 h)
    have hTX1 := hTX.kept hH.1.2.2.1.2.1
    have hTX2 := hTX1.narrow hF
    obtain ⟨⟨adV, hV⟩, hZ, hZq⟩ := id hTX1
    obtain ⟨hO, hF1, hF2, hT⟩ := hV i hi
    have hcells := hH.2.2.2.2.2.2.1
    have hslots := hH.2.2.2.2.2.2.2.1
    have hmono := exec_n _ _ _ _ _ _ _ he
    have hsl := slN_mono hmono
    have hw5 := hH.1.2.2.2.2.1 i hi
    have est : (vI j :: vR 1000 i :: st).map (toV ad) = .int (Int32.ofNat j.toNat) :: .ref (G.2.2 i) :: st.map (toV ad) := by
      rw [List.map_cons, List.map_cons, ← hw5, ← ofInt_nat, Int.toNat_of_nonneg (by omega)]
      rfl
    rw [est]
    have hmon : 2 * 0 + ((st.map (toV ad)).map fun v => v.category).sum ≤ 8 := by
      rw [words_eq]
      omega
    refine va_calli (va_runV (C := "java/lang/String") (As := [.int (Int32.ofNat j.toNat)]) (rest := st.map (toV ad)) ⟨hx, hb, hml, hown, hts⟩ (j_chr l G H.size hi hj) ⟨⟨rfl, rfl, by show 3 + 1 ≤ R.frames; omega, by show 8 + (2 + 11) + 64 ≤ R.locals; omega, wsj_warm hts jg_16, List.mem_cons_self, hts _ jg_16, hts _ ji_0, by decide, parse_len (n := 1) (by decide +kernel), w1⟩, hts _ jg_14, hts _ jg_15⟩ ⟨blindJ _, recvT hO, fun U hU hW => ⟨rfl, by rw [hU], by rw [hU]; exact TXc.moved hW.alike hTX2⟩⟩ rfl rfl (hH.2.2.2.2.1.1.trans hH.2.2.2.2.2.1) rfl hmon hd ⟨by omega, by omega⟩) hH.1.2.2.1 (fun q _ h => hF q h) hF (fun r u t H1 locs1 ht hvm hw hB hz1 hk1 hS => ?_)
    rw [hw]
    have k0 := ih (pc + 1) L (vI (sChr i j.toNat) :: st) S ad H1 locs1 cells slots ls he ⟨wd_still hH.1 hk1 hS, hH.2.1, ok1 (show okV S.1 (vI (sChr i j.toNat)) from hin) hr, hH.2.2.2.1, hH.2.2.2.2.1, hH.2.2.2.2.2.1, hH.2.2.2.2.2.2.1, hH.2.2.2.2.2.2.2.1, hH.2.2.2.2.2.2.2.2⟩
    rw [hn] at k0
    exact k0
  · cases hz
end WALK
def retK (r : Nat) : Instr → Bool
  | .ireturn => cond (Nat.beq r 1) true (Nat.beq r 2)
  | .lreturn => Nat.beq r 3
  | .areturn => Nat.beq r 4
  | .return_ => Nat.beq r 0
  | _ => true
theorem rets_all : allR (fun m => allL (retK (mRet m)) (cod m)) 0 264 = true := by decide +kernel
theorem rets_k {m pc : Nat} {ins : Instr} (hm : m < 264) (h : nth (cod m) pc = some ins) : retK (mRet m) ins = true := allL_in (allR_at 264 0 m rets_all (by omega) (by omega)) ins (nth_mem _ _ _ h)
section WALK
variable {N m : Nat} {G : GT} {b : Nat} {xs : Nat → Int32} {out : Out}
variable {p : Program} {l : Launch} {e : Env} {R : Room} {s : State} {mid : MethodId} {args : Array Value} {below : List Frame} {meth : Method} {c : Code} {A : Nat → Prop} {H0 : Heap} {Q : State → Prop}
variable {F pc : Nat} {L st : List MV} {S : MS} {ad : AdT} {H : Heap} {locs : List Loc} {cells slots : Nat} {ls : Array Slot}
theorem r_i (hH : Here N m G b xs out p l e R s mid args below meth c A H0 Q L st S ad H locs cells slots ls) {raw : Instr} {len : Nat} (hd : decode (mCode m) (bpc m pc) = .ok (raw, len)) (hlen : lenOf raw = 0 ∨ len = lenOf raw) (hz : rz m (bpc m pc) raw .ireturn = true) (hk : retK (mRet m) .ireturn = true)
    (he : xret m st S = some out) : W p l e R s mid args below meth c H locs cells slots Q (F0 mid (bpc m pc) ls (st.map (toV ad))) := by
  have hr : mRet m = 1 ∨ mRet m = 2 := by
    unfold retK at hk
    rcases z : Nat.beq (mRet m) 1 with _ | _
    · rw [z] at hk
      exact Or.inr (Nat.eq_of_beq_eq_true hk)
    · exact Or.inl (Nat.eq_of_beq_eq_true z)
  unfold rz at hz
  dsimp only at hz
  split at hz
  · rcases hlen with h | h
    · cases h
    rw [h] at hd
    refine s_ret hH he (fun h _ => by omega) (fun _ _ => hd) (fun x hx => ?_) (fun x hx => ?_)
    · subst hx
      unfold xret at he
      rcases hr with h | h <;> rw [h] at he <;> cases he
    · subst hx
      unfold xret at he
      rcases hr with h | h <;> rw [h] at he <;> cases he
  · cases hz
theorem r_l (hH : Here N m G b xs out p l e R s mid args below meth c A H0 Q L st S ad H locs cells slots ls) {raw : Instr} {len : Nat} (hd : decode (mCode m) (bpc m pc) = .ok (raw, len)) (hlen : lenOf raw = 0 ∨ len = lenOf raw) (hz : rz m (bpc m pc) raw .lreturn = true) (hk : retK (mRet m) .lreturn = true)
    (he : xret m st S = some out) : W p l e R s mid args below meth c H locs cells slots Q (F0 mid (bpc m pc) ls (st.map (toV ad))) := by
  have hr : mRet m = 3 := Nat.eq_of_beq_eq_true hk
  unfold rz at hz
  dsimp only at hz
  split at hz
  · rcases hlen with h | h
    · cases h
    rw [h] at hd
    refine s_ret hH he (fun h _ => by omega) (fun x hx => ?_) (fun _ _ => hd) (fun x hx => ?_)
    · subst hx
      unfold xret at he
      rw [hr] at he
      cases he
    · subst hx
      unfold xret at he
      rw [hr] at he
      cases he
  · cases hz
theorem r_a (hH : Here N m G b xs out p l e R s mid args below meth c A H0 Q L st S ad H locs cells slots ls) {raw : Instr} {len : Nat} (hd : decode (mCode m) (bpc m pc) = .ok (raw, len)) (hlen : lenOf raw = 0 ∨ len = lenOf raw) (hz : rz m (bpc m pc) raw .areturn = true) (hk : retK (mRet m) .areturn = true)
    (he : xret m st S = some out) : W p l e R s mid args below meth c H locs cells slots Q (F0 mid (bpc m pc) ls (st.map (toV ad))) := by
  have hr : mRet m = 4 := Nat.eq_of_beq_eq_true hk
  unfold rz at hz
  dsimp only at hz
  split at hz
  · rcases hlen with h | h
    · cases h
    rw [h] at hd
    refine s_ret hH he (fun h _ => by omega) (fun x hx => ?_) (fun x hx => ?_) (fun _ _ => hd)
    · subst hx
      unfold xret at he
      rw [hr] at he
      cases he
    · subst hx
      unfold xret at he
      rw [hr] at he
      cases he
  · cases hz
theorem r_v (hH : Here N m G b xs out p l e R s mid args below meth c A H0 Q L st S ad H locs cells slots ls) {raw : Instr} {len : Nat} (hd : decode (mCode m) (bpc m pc) = .ok (raw, len)) (hlen : lenOf raw = 0 ∨ len = lenOf raw) (hz : rz m (bpc m pc) raw .return_ = true) (hk : retK (mRet m) .return_ = true)
    (he : xret m st S = some out) : W p l e R s mid args below meth c H locs cells slots Q (F0 mid (bpc m pc) ls (st.map (toV ad))) := by
  have hr : mRet m = 0 := Nat.eq_of_beq_eq_true hk
  unfold rz at hz
  dsimp only at hz
  split at hz
  · rcases hlen with h | h
    · cases h
    rw [h] at hd
    refine s_ret hH he (fun _ _ => hd) (fun x hx => ?_) (fun x hx => ?_) (fun x hx => ?_)
    · subst hx
      unfold xret at he
      rw [hr] at he
      cases he
    · subst hx
      unfold xret at he
      rw [hr] at he
      cases he
    · subst hx
      unfold xret at he
      rw [hr] at he
      cases he
  · cases hz
end WALK
set_option maxHeartbeats 4000000 in
/-- THE WALK: what the small machine comes to, the JVM comes to -/
theorem walk (N : Nat) (l : Launch) : ∀ (F m : Nat) (G : GT) (b : Nat) (xs : Nat → Int32) (out : Out) (p : Program) (e : Env) (R : Room) (s : State) (mid : MethodId) (args : Array Value) (below : List Frame) (meth : Method) (c : Code) (A : Nat → Prop) (H0 : Heap) (Q : State → Prop), Cx N m G b xs p R s mid args meth c A H0 → IH N F m G b xs out p l e R s mid args below meth c A H0 Q := by
  intro F
  induction F with
  | zero =>
    intro m G b xs out p e R s mid args below meth c A H0 Q _ pc L st S ad H locs cells slots ls he
    exact absurd he (by simp [exec])
  | succ F ihF =>
    intro m G b xs out p e R s mid args below meth c A H0 Q hC pc L st S ad H locs cells slots ls he hH
    rw [exec] at he
    rcases e9 : nth (cod m) pc with _ | ins <;> rw [e9] at he
    · cases he
    dsimp only at he
    have ok := okIns m pc ins hC.1 e9
    have hk := rets_k hC.1 e9
    obtain ⟨raw, len, hd, hn, hlen, hz⟩ := okI_x ok
    have ih := ihF m G b xs out p e R s mid args below meth c A H0 Q hC
    have hM : MetK N F l := met_of (fun m G b xs out p e R s mid args below meth c A H0 Q h => ihF m G b xs out p e R s mid args below meth c A H0 Q h)
    cases ins with
    | iload i => exact s_iload hC ih hH hd hn hlen hz he
    | lload i => exact s_lload hC ih hH hd hn hlen hz he
    | aload i => exact s_aload hC ih hH hd hn hlen hz he
    | istore i => exact s_istore hC ih hH hd hn hlen hz he
    | astore i => exact s_astore hC ih hH hd hn hlen hz he
    | lstore i => exact s_lstore hC ih hH hd hn hlen hz he
    | fstore i => exact s_fstore hC ih hH hd hn hlen hz he
    | dstore i => exact s_dstore hC ih hH hd hn hlen hz he
    | iconst v => exact s_iconst hC ih hH hd hn hlen hz he
    | jsr_w v => exact s_jconst hC ih hH hd hn hlen hz he
    | ldc i => exact s_ldc hC ih hH hd hn hlen hz he
    | iinc i k => exact s_iinc hC ih hH hd hn hlen hz he
    | iadd => exact s_iadd hC ih hH hd hn hlen hz he
    | isub => exact s_isub hC ih hH hd hn hlen hz he
    | imul => exact s_imul hC ih hH hd hn hlen hz he
    | iand => exact s_iand hC ih hH hd hn hlen hz he
    | ior => exact s_ior hC ih hH hd hn hlen hz he
    | ixor => exact s_ixor hC ih hH hd hn hlen hz he
    | ishl => exact s_ishl hC ih hH hd hn hlen hz he
    | ishr => exact s_ishr hC ih hH hd hn hlen hz he
    | idiv => exact s_idiv hC ih hH hd hn hlen hz he
    | irem => exact s_irem hC ih hH hd hn hlen hz he
    | dadd => exact s_min hC ih hH hd hn hlen hz he
    | dsub => exact s_max hC ih hH hd hn hlen hz he
    | ladd => exact s_ladd hC ih hH hd hn hlen hz he
    | lmul => exact s_lmul hC ih hH hd hn hlen hz he
    | lor => exact s_lor hC ih hH hd hn hlen hz he
    | ldiv => exact s_ldiv hC ih hH hd hn hlen hz he
    | lrem => exact s_lrem hC ih hH hd hn hlen hz he
    | lshl => exact s_lshl hC ih hH hd hn hlen hz he
    | lshr => exact s_lshr hC ih hH hd hn hlen hz he
    | lushr => exact s_lushr hC ih hH hd hn hlen hz he
    | lcmp => exact s_lcmp hC ih hH hd hn hlen hz he
    | i2l => exact s_i2l hC ih hH hd hn hlen hz he
    | l2i => exact s_l2i hC ih hH hd hn hlen hz he
    | i2b => exact s_i2b hC ih hH hd hn hlen hz he
    | dup => exact s_dup hC ih hH hd hn hlen hz he
    | dup2 => exact s_dup2 hC ih hH hd hn hlen hz he
    | pop => exact s_pop hC ih hH hd hn hlen hz he
    | goto t => exact s_goto hC ih hH hd hn hlen hz he
    | if_icmp cd t => exact s_icmp hC ih hH hd hn hlen hz he
    | ifCond cd t => exact s_ifc hC ih hH hd hn hlen hz he
    | ifnull t => exact s_ifnull hC ih hH hd hn hlen hz he
    | tableswitch d lo hi ts => exact s_switch hC ih hH hd hz he
    | getfield n => exact s_get hC ih hH hd hn hlen hz he
    | putfield n => exact s_put hC ih hH hd hn hlen hz he
    | arraylength => exact s_alen hC ih hH hd hn hlen hz he
    | iaload => exact s_iald hC ih hH hd hn hlen hz he
    | baload => exact s_bald hC ih hH hd hn hlen hz he
    | laload => exact s_lald hC ih hH hd hn hlen hz he
    | iastore => exact s_iast hC ih hH hd hn hlen hz he
    | bastore => exact s_bast hC ih hH hd hn hlen hz he
    | lastore => exact s_last hC ih hH hd hn hlen hz he
    | new ci => exact s_new hC ih hH hd hn hlen hz he
    | newarray t => exact s_newa hC ih hH hd hn hlen hz he
    | dmul => exact s_copy hC ih hH hd hn hlen hz he
    | ddiv => exact s_slen hC ih hH hd hn hlen hz he
    | drem => exact s_schr hC ih hH hd hn hlen hz he
    | dneg => exact s_obj hC ih hH hd hn hlen hz he
    | invokestatic k => exact s_ics hM hC ih hH hd hn hlen hz he
    | invokevirtual k => exact s_icv hM hC ih hH hd hn hlen hz he
    | invokespecial k => exact s_ici hM hC ih hH hd hn hlen hz he
    | ireturn => exact r_i hH hd hlen hz hk he
    | lreturn => exact r_l hH hd hlen hz hk he
    | areturn => exact r_a hH hd hlen hz hk he
    | return_ => exact r_v hH hd hlen hz hk he
    | _ => exact absurd (show (none : Option Out) = some out from he) (by simp)
end
section
/-! THE LAW'S START -/
def sOwn (i : Nat) : String := cN (nthD [4, 4, 4, 4, 4, 4, 4, 4, 8, 8, 8, 8, 8, 8, 8, 8] i)
def sIdx (i : Nat) : Nat := nthD [62, 101, 72, 110, 116, 77, 82, 87, 91, 93, 95, 97, 99, 101, 102, 104] i
def sRep (i : Nat) : Nat := nthD [0, 1, 2, 3, 4, 5, 6, 7, 0, 2, 5, 6, 7, 1, 3, 4] i
def tmS (i : Nat) : Term := .string (sOwn i) (sIdx i)
theorem tb_in {c : Cond} (h : c ∈ tables_1) : c ∈ lw_tbl := List.mem_append_right _ h
set_option maxRecDepth 100000 in
theorem sr_all : ∀ i, i < 16 → Cond.stringRef (sOwn i) (sIdx i) (sTxt i) ∈ tables_1 := by decide +kernel
theorem nl_0 : ∀ q ∈ ([(2, 119), (5, 70)] : List (Nat × Nat)), Cond.methodLinkNest (cN q.1) q.2 (mN 149) "TwinSlots" ∈ tables_1 := by decide +kernel
theorem ls_0 : Cond.laysStatic "java/lang/String" "COMPACT_STRINGS" "Z" ∈ tables_1 := by decide +kernel
theorem ls_1 : Cond.laysStatic "jdk/internal/util/Preconditions" "SIOOBE_FORMATTER" "Ljava/util/function/BiFunction;" ∈ tables_1 := by decide +kernel
def flN : List Cond := flatC (Jvm.Cond.and given_1 narrow_1)
theorem lx_0 : Cond.eq (.static "java/lang/String" "COMPACT_STRINGS" "Z") (.int 1) ∈ flN := by decide +kernel
theorem lx_1 : Cond.isRef (.static "jdk/internal/util/Preconditions" "SIOOBE_FORMATTER" "Ljava/util/function/BiFunction;") ∈ flN := by decide +kernel
theorem lx_ex : ∀ i, i < 8 → Cond.exactly (tmS i) "java/lang/String" ∈ flN := by decide +kernel
theorem lx_co : ∀ i, i < 8 → Cond.eq (.field (tmS i) "java/lang/String" "coder" "B") (.int 0) ∈ flN := by decide +kernel
theorem lx_ar : ∀ i, i < 8 → Cond.arrayOf (.field (tmS i) "java/lang/String" "value" "[B") .byte ∈ flN := by decide +kernel
theorem lx_le : ∀ i, i < 8 → Cond.eq (.length (.field (tmS i) "java/lang/String" "value" "[B")) (.int (Int32.ofNat (lenS.getD i 0))) ∈ flN := by decide +kernel
theorem lx_el : ∀ i, i < 8 → ∀ j, j < lenS.getD i 0 → Cond.eq (.elem (.field (tmS i) "java/lang/String" "value" "[B") (.int (Int32.ofNat j))) (.int ((bytS.getD i []).getD j 0)) ∈ flN := by decide +kernel
theorem lx_eq : ∀ i, i < 16 → 8 ≤ i → Cond.eq (tmS (sRep i)) (tmS i) ∈ flN := by decide +kernel
theorem lx_rep : ∀ i, i < 16 → sRep i < 8 ∧ (i < 8 → sRep i = i) ∧ lenS.getD (sRep i) 0 = lenS.getD i 0 ∧ bytS.getD (sRep i) [] = bytS.getD i [] ∧ lenS.getD i 0 < 100 := by decide +kernel
theorem eqR {args : Array Value} {s : State} {t u : Term} {a : Nat} (h : (Cond.eq t u).before args s = true) (ht : t.eval args s none [] s = some (.ref a)) : u.eval args s none [] s = some (.ref a) := by
  cases hv : u.eval args s none [] s with
  | none => simp [Cond.before, Cond.holds, Cond.value, hv, ht] at h
  | some w =>
    simp only [Cond.before, Cond.holds, Cond.value, hv, ht] at h
    cases w <;> simp_all
theorem b3 {a idx i x y z : Nat} (h : band3 (Nat.beq a x) (Nat.beq idx y) (Nat.beq i z) = true) : a = x ∧ idx = y ∧ i = z := by
  unfold band3 at h
  rcases z1 : Nat.beq a x with _ | _ <;> rw [z1] at h
  · cases h
  rcases z2 : Nat.beq idx y with _ | _ <;> rw [z2] at h
  · cases h
  exact ⟨Nat.eq_of_beq_eq_true z1, Nat.eq_of_beq_eq_true z2, Nat.eq_of_beq_eq_true h⟩
theorem strOk_t {a idx i : Nat} (h : strOk a idx i = true) : i < 16 ∧ cN a = sOwn i ∧ idx = sIdx i := by
  unfold strOk at h
  rcases Bool.eq_false_or_eq_true (band3 (Nat.beq a 4) (Nat.beq idx 62) (Nat.beq i 0)) with z | z
  · obtain ⟨rfl, rfl, rfl⟩ := b3 z
    exact ⟨by decide, rfl, rfl⟩
  rw [z, cond_false] at h
  rcases Bool.eq_false_or_eq_true (band3 (Nat.beq a 4) (Nat.beq idx 101) (Nat.beq i 1)) with z | z
  · obtain ⟨rfl, rfl, rfl⟩ := b3 z
    exact ⟨by decide, rfl, rfl⟩
  rw [z, cond_false] at h
  rcases Bool.eq_false_or_eq_true (band3 (Nat.beq a 4) (Nat.beq idx 72) (Nat.beq i 2)) with z | z
  · obtain ⟨rfl, rfl, rfl⟩ := b3 z
    exact ⟨by decide, rfl, rfl⟩
  rw [z, cond_false] at h
  rcases Bool.eq_false_or_eq_true (band3 (Nat.beq a 4) (Nat.beq idx 110) (Nat.beq i 3)) with z | z
  · obtain ⟨rfl, rfl, rfl⟩ := b3 z
    exact ⟨by decide, rfl, rfl⟩
  rw [z, cond_false] at h
  rcases Bool.eq_false_or_eq_true (band3 (Nat.beq a 4) (Nat.beq idx 116) (Nat.beq i 4)) with z | z
  · obtain ⟨rfl, rfl, rfl⟩ := b3 z
    exact ⟨by decide, rfl, rfl⟩
  rw [z, cond_false] at h
  rcases Bool.eq_false_or_eq_true (band3 (Nat.beq a 4) (Nat.beq idx 77) (Nat.beq i 5)) with z | z
  · obtain ⟨rfl, rfl, rfl⟩ := b3 z
    exact ⟨by decide, rfl, rfl⟩
  rw [z, cond_false] at h
  rcases Bool.eq_false_or_eq_true (band3 (Nat.beq a 4) (Nat.beq idx 82) (Nat.beq i 6)) with z | z
  · obtain ⟨rfl, rfl, rfl⟩ := b3 z
    exact ⟨by decide, rfl, rfl⟩
  rw [z, cond_false] at h
  rcases Bool.eq_false_or_eq_true (band3 (Nat.beq a 4) (Nat.beq idx 87) (Nat.beq i 7)) with z | z
  · obtain ⟨rfl, rfl, rfl⟩ := b3 z
    exact ⟨by decide, rfl, rfl⟩
  rw [z, cond_false] at h
  rcases Bool.eq_false_or_eq_true (band3 (Nat.beq a 8) (Nat.beq idx 91) (Nat.beq i 8)) with z | z
  · obtain ⟨rfl, rfl, rfl⟩ := b3 z
    exact ⟨by decide, rfl, rfl⟩
  rw [z, cond_false] at h
  rcases Bool.eq_false_or_eq_true (band3 (Nat.beq a 8) (Nat.beq idx 93) (Nat.beq i 9)) with z | z
  · obtain ⟨rfl, rfl, rfl⟩ := b3 z
    exact ⟨by decide, rfl, rfl⟩
  rw [z, cond_false] at h
  rcases Bool.eq_false_or_eq_true (band3 (Nat.beq a 8) (Nat.beq idx 95) (Nat.beq i 10)) with z | z
  · obtain ⟨rfl, rfl, rfl⟩ := b3 z
    exact ⟨by decide, rfl, rfl⟩
  rw [z, cond_false] at h
  rcases Bool.eq_false_or_eq_true (band3 (Nat.beq a 8) (Nat.beq idx 97) (Nat.beq i 11)) with z | z
  · obtain ⟨rfl, rfl, rfl⟩ := b3 z
    exact ⟨by decide, rfl, rfl⟩
  rw [z, cond_false] at h
  rcases Bool.eq_false_or_eq_true (band3 (Nat.beq a 8) (Nat.beq idx 99) (Nat.beq i 12)) with z | z
  · obtain ⟨rfl, rfl, rfl⟩ := b3 z
    exact ⟨by decide, rfl, rfl⟩
  rw [z, cond_false] at h
  rcases Bool.eq_false_or_eq_true (band3 (Nat.beq a 8) (Nat.beq idx 101) (Nat.beq i 13)) with z | z
  · obtain ⟨rfl, rfl, rfl⟩ := b3 z
    exact ⟨by decide, rfl, rfl⟩
  rw [z, cond_false] at h
  rcases Bool.eq_false_or_eq_true (band3 (Nat.beq a 8) (Nat.beq idx 102) (Nat.beq i 14)) with z | z
  · obtain ⟨rfl, rfl, rfl⟩ := b3 z
    exact ⟨by decide, rfl, rfl⟩
  rw [z, cond_false] at h
  rcases Bool.eq_false_or_eq_true (band3 (Nat.beq a 8) (Nat.beq idx 104) (Nat.beq i 15)) with z | z
  · obtain ⟨rfl, rfl, rfl⟩ := b3 z
    exact ⟨by decide, rfl, rfl⟩
  rw [z, cond_false] at h
  cases h
theorem nestOk_t {a idx k : Nat} (h : nestOk a idx k = true) : k = 149 ∧ (a, idx) ∈ ([(2, 119), (5, 70)] : List (Nat × Nat)) := by
  refine ⟨nest_k h, ?_⟩
  unfold nestOk at h
  rcases Bool.eq_false_or_eq_true (band3 (Nat.beq a 5) (Nat.beq idx 70) (Nat.beq k 149)) with z | z
  · obtain ⟨rfl, rfl, rfl⟩ := b3 z
    decide
  rw [z, cond_false] at h
  rcases Bool.eq_false_or_eq_true (band3 (Nat.beq a 2) (Nat.beq idx 119) (Nat.beq k 149)) with z | z
  · obtain ⟨rfl, rfl, rfl⟩ := b3 z
    decide
  rw [z, cond_false] at h
  cases h
theorem inst_all : allR (fun c => elemW (7, c, 0, 0)) 0 9 = true := by decide +kernel
theorem arrs_all : elemW (12, 1, 0, 0) = true ∧ elemW (12, 2, 0, 0) = true ∧ elemW (12, 3, 0, 0) = true := by decide +kernel
theorem arr_k {args : Array Value} {s : State} {ty : FieldType} (h : (Cond.arrayClass ty).before args s = true) : ∃ cA : ClassId, ArrOfT s cA ty ∧ s.vm.findClass ("[" ++ ty.toString) = some cA := by
  obtain ⟨cA, kA, comp, h1, h2, h3⟩ := Cond.arrayClass_spec h
  exact ⟨cA, fun n z => ⟨fun k h => (by cases h), kA, h2, comp, h3⟩, h1⟩
theorem start_G {s : State} {args : Array Value} (hts : ∀ w ∈ lw_tbl, w.before args s = true) (hgv : (Jvm.Cond.and given_1 narrow_1).before args s = true) : ∃ G : GT, GS G s ∧ TXc G (fun q => s.heap.size ≤ q) s s.heap := by
  have hfl : ∀ c ∈ flN, c.before args s = true := flat_of_before _ hgv
  have htg : ∀ w ∈ gw, w.before args s = true := fun w hw => hts w (gw_in w hw)
  have hA : ∀ a : Nat, a < s.heap.size → ¬ (fun q : Nat => s.heap.size ≤ q) a := fun a h => Nat.not_le.mpr h
  -- the classes
  have h0 : ∀ c, ∃ q : ClassId × (Nat → Nat), c < 9 → u_Kn s (cN c) (cTb c) (nF c) q.1 q.2 := by
    intro c
    by_cases hc : c < 9
    · have w := htg _ (gw_of (allR_at (f := fun c => elemW (7, c, 0, 0)) 9 0 c inst_all (by omega) (by omega)) rfl)
      rw [wd_7] at w
      obtain ⟨cC, iS, h⟩ := u_known htg (fld_in hc) w
      exact ⟨(cC, iS), fun _ => h⟩
    · exact ⟨(0, fun _ => 0), fun h => absurd h hc⟩
  obtain ⟨dd, hdd⟩ := Classical.axiomOfChoice h0
  -- the rows
  obtain ⟨c1, a1, n1⟩ := arr_k (ty := .int) (htg (wd (12, 1, 0, 0)) (gw_of arrs_all.1 rfl))
  obtain ⟨c2, a2, n2⟩ := arr_k (ty := .byte) (htg (wd (12, 2, 0, 0)) (gw_of arrs_all.2.1 rfl))
  obtain ⟨c3, a3, n3⟩ := arr_k (ty := .long) (htg (wd (12, 3, 0, 0)) (gw_of arrs_all.2.2 rfl))
  -- the texts
  have h1 : ∀ i : Nat, ∃ q : Nat × Nat, i < 8 → (tmS i).eval args s none [] s = some (.ref q.1) ∧ TX1 (lenS.getD i 0) (bytS.getD i []) q.1 q.2 (fun q => s.heap.size ≤ q) s s.heap := by
    intro i
    by_cases hi : i < 8
    · obtain ⟨a, c, cA, kA, q1, q2, q3, q4, q5, q6, -⟩ := Cond.exactly_spec (args := args) (first := s) (o := none) (s := s) (idx := []) (t := tmS i) (cls := "java/lang/String") (hfl _ (lx_ex i hi))
      have hlen : lenS.getD i 0 < 2 ^ 31 := by
        have := (lx_rep i (by omega)).2.2.2.2
        omega
      obtain ⟨t, ht, hT⟩ := va_Tof (f := fun j => .int ((bytS.getD i []).getD j 0)) (A := fun q => s.heap.size ≤ q) hlen (hfl _ (lx_ar i hi)) (va_eqt (hfl _ (lx_le i hi))) (fun j hj => va_eqt (hfl _ (lx_el i hi j hj))) hA
      exact ⟨(a, t), fun _ => ⟨q1, ⟨cA, q3, q5, by rw [q6]; exact q2, hA a (Array.getElem?_eq_some_iff.mp q3).1⟩, vk_OFof q1 (va_eqt (hfl _ (lx_co i hi))) hA, vk_OFof q1 ht hA, hT⟩⟩
    · exact ⟨(0, 0), fun h => absurd h hi⟩
  obtain ⟨tt, htt⟩ := Classical.axiomOfChoice h1
  have hev : ∀ i, i < 16 → (tmS i).eval args s none [] s = some (.ref (tt (sRep i)).1) := by
    intro i hi
    obtain ⟨r1, r2, -⟩ := lx_rep i hi
    have e1 := (htt (sRep i) r1).1
    by_cases hi2 : i < 8
    · rw [r2 hi2] at e1 ⊢
      exact e1
    · exact eqR (hfl _ (lx_eq i hi (by omega))) e1
  refine ⟨((fun c => (dd c).1, fun c => (dd c).2), fun k => if k = 1 then c1 else if k = 2 then c2 else c3, fun i => (tt (sRep i)).1), ⟨⟨fun c q hq => ?_, fun k q hq => ?_⟩, fun a i k h => ?_, fun a i k h => ?_⟩, ⟨fun i => (tt (sRep i)).2, fun i hi => ?_⟩, ?_, ?_⟩
  · have hc : c < 9 := (List.getElem?_eq_some_iff.mp hq).1
    rw [cls_at hc] at hq
    cases hq
    exact hdd c hc
  · match k, hq with
    | 0, hq => cases hq; exact ⟨a1, n1⟩
    | 1, hq => cases hq; exact ⟨a2, n2⟩
    | 2, hq => cases hq; exact ⟨a3, n3⟩
    | k + 3, hq => simp [tys0] at hq
  · obtain ⟨rfl, h2⟩ := nestOk_t h
    exact va_Nw.of rfl (hts _ (tb_in (nl_0 (a, i) h2)))
  · obtain ⟨hk, e1, rfl⟩ := strOk_t h
    rw [e1]
    have g1 := hts _ (tb_in (sr_all k hk))
    exact vk_R.of g1 (hev k hk)
  · obtain ⟨r1, -, r3, r4, -⟩ := lx_rep i hi
    have := (htt (sRep i) r1).2
    rw [r3, r4] at this
    exact this
  · exact va_Zof (hts _ (tb_in ls_0)) (htg _ ji_0) (va_eqt (hfl _ lx_0)) hA
  · exact va_Zqof (hts _ (tb_in ls_1)) (htg _ ji_2) (hfl _ lx_1) hA
/-- what is to be shown of the law's run by the small machine -/
def LawRuns : Prop := ∀ (N : Nat) (σ : Sto), N ≤ 3072 → okS σ → ∃ (F : Nat) (σ' : Sto), exec N F 0 0 (mkL 0 [vR 999 0]) [] (0, [], σ) = some (some (vI 1), P σ')
theorem slN_55 : slN 55 = 60185 := by decide +kernel
theorem ret_law {pc : Nat} (h : EndAt 0 pc (some (vI 1))) : decode code (bpc 0 pc) = .ok (.ireturn, 1) := h.1
end
