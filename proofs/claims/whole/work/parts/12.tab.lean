/-- the methods: code, locals, what they return -/
def am_Yl : List (Option (List (Nat × am_Q) × Nat × Nat)) := [
  some (am_q0, 10, 1),
  some (am_q1, 4, 0),
  some (am_q2, 10, 1),
  some (am_q3, 2, 0),
  some (am_q4, 3, 2),
  some (am_q5, 3, 0),
  some (am_q6, 2, 0),
  some (am_q7, 9, 0),
  some (am_q8, 5, 1),
  some (am_q9, 3, 0),
  some (am_q10, 1, 0),
  some (am_q11, 4, 0),
  some (am_q12, 3, 0),
  some (am_q13, 2, 2),
  some (am_q14, 4, 0),
  some (am_q15, 6, 0),
  some (am_q16, 6, 2),
  some (am_q17, 2, 2),
  some (am_q18, 4, 4),
  some (am_q19, 8, 4),
  some (am_q20, 9, 3),
  some (am_q21, 2, 2),
  some (am_q22, 2, 3),
  some (am_q23, 2, 3),
  some (am_q24, 3, 2),
  some (am_q25, 3, 0),
  some (am_q26, 7, 2),
  some (am_q27, 3, 2),
  some (am_q28, 10, 2),
  some (am_q29, 8, 2),
  some (am_q30, 11, 3),
  some (am_q31, 1, 0),
  some (am_q32, 2, 1),
  some (am_q33, 2, 2),
  some (am_q34, 2, 2),
  some (am_q35, 4, 0),
  some (am_q36, 3, 1),
  some (am_q37, 6, 1),
  some (am_q38, 3, 0),
  some (am_q39, 2, 1),
  some (am_q40, 5, 2),
  some (am_q41, 1, 0),
  some (am_q42, 2, 2),
  some (am_q43, 3, 2),
  some (am_q44, 7, 2),
  some (am_q45, 1, 1),
  some (am_q46, 4, 2),
  some (am_q47, 1, 1),
  some (am_q48, 1, 2),
  some (am_q49, 2, 2),
  some (am_q50, 1, 2),
  some (am_q51, 3, 2),
  some (am_q52, 3, 2),
  some (am_q53, 3, 2),
  some (am_q54, 5, 2),
  some (am_q55, 4, 2),
  some (am_q56, 3, 2),
  some (am_q57, 1, 2),
  some (am_q58, 1, 2),
  some (am_q59, 2, 2),
  some (am_q60, 8, 2),
  some (am_q61, 1, 2),
  some (am_q62, 12, 0),
  some (am_q63, 5, 1),
  some (am_q64, 6, 0),
  some (am_q65, 3, 0),
  some (am_q66, 6, 0),
  some (am_q67, 10, 0),
  some (am_q68, 21, 0),
  some (am_q69, 21, 0),
  some (am_q70, 3, 3),
  some (am_q71, 3, 3),
  some (am_q72, 4, 3),
  some (am_q73, 4, 3),
  some (am_q74, 7, 3),
  some (am_q75, 4, 3),
  some (am_q76, 7, 1),
  some (am_q77, 4, 1),
  some (am_q78, 1, 0),
  some (am_q79, 15, 0),
  some (am_q80, 5, 1),
  some (am_q81, 15, 0),
  some (am_q82, 6, 3),
  some (am_q83, 6, 0),
  some (am_q84, 4, 0),
  some (am_q85, 6, 1),
  some (am_q86, 5, 1),
  none,
  some (am_q88, 2, 1),
  some (am_q89, 1, 2),
  some (am_q90, 1, 2),
  some (am_q91, 1, 2),
  some (am_q92, 6, 1),
  some (am_q93, 3, 0),
  some (am_q94, 4, 1),
  some (am_q95, 2, 1),
  some (am_q96, 2, 1),
  some (am_q97, 6, 3),
  some (am_q98, 8, 3),
  some (am_q99, 3, 3),
  some (am_q100, 13, 3),
  some (am_q101, 9, 1),
  some (am_q102, 4, 3),
  some (am_q103, 7, 1),
  some (am_q104, 8, 1),
  some (am_q105, 5, 1),
  some (am_q106, 5, 1),
  some (am_q107, 10, 1),
  none,
  some (am_q109, 5, 1),
  some (am_q110, 2, 1),
  some (am_q111, 3, 1),
  some (am_q112, 3, 1),
  some (am_q113, 1, 2),
  some (am_q114, 1, 2),
  some (am_q115, 1, 1),
  some (am_q116, 8, 1),
  some (am_q117, 3, 2),
  some (am_q118, 2, 2),
  some (am_q119, 8, 1),
  some (am_q120, 2, 2),
  some (am_q121, 2, 2),
  some (am_q122, 1, 2),
  some (am_q123, 2, 0),
  some (am_q124, 2, 2),
  some (am_q125, 2, 2),
  some (am_q126, 4, 1),
  some (am_q127, 1, 1),
  some (am_q128, 1, 1),
  some (am_q129, 2, 0),
  some (am_q130, 3, 0),
  some (am_q131, 3, 0),
  some (am_q132, 2, 2),
  some (am_q133, 5, 2),
  some (am_q134, 2, 2),
  some (am_q135, 4, 2),
  some (am_q136, 3, 2),
  some (am_q137, 2, 2),
  some (am_q138, 1, 1),
  some (am_q139, 3, 2),
  some (am_q140, 10, 2),
  some (am_q141, 2, 2),
  some (am_q142, 2, 2),
  some (am_q143, 3, 0),
  some (am_q144, 3, 1),
  some (am_q145, 2, 1),
  some (am_q146, 1, 2),
  some (am_q147, 2, 1),
  some (am_q148, 2, 2),
  some (am_q149, 2, 2),
  some (am_q150, 6, 0),
  some (am_q151, 8, 0),
  some (am_q152, 1, 0),
  some (am_q153, 6, 0),
  some (am_q154, 3, 3),
  some (am_q155, 6, 3),
  some (am_q156, 6, 3),
  some (am_q157, 4, 3),
  some (am_q158, 4, 3),
  some (am_q159, 6, 3),
  some (am_q160, 2, 0),
  some (am_q161, 7, 0),
  some (am_q162, 8, 0),
  some (am_q163, 11, 0),
  some (am_q164, 9, 0),
  some (am_q165, 15, 0),
  some (am_q166, 4, 0),
  some (am_q167, 12, 0),
  some (am_q168, 4, 3),
  some (am_q169, 7, 0),
  some (am_q170, 3, 0),
  some (am_q171, 2, 3),
  some (am_q172, 4, 3),
  some (am_q173, 6, 3),
  some (am_q174, 9, 3),
  some (am_q175, 6, 1),
  some (am_q176, 2, 3),
  some (am_q177, 10, 3),
  some (am_q178, 5, 1),
  some (am_q179, 15, 2),
  some (am_q180, 6, 0),
  some (am_q181, 3, 3),
  some (am_q182, 10, 1),
  some (am_q183, 8, 1),
  some (am_q184, 9, 0),
  some (am_q185, 11, 1),
  some (am_q186, 4, 1),
  some (am_q187, 9, 1),
  some (am_q188, 5, 0),
  some (am_q189, 3, 0),
  some (am_q190, 4, 0),
  some (am_q191, 2, 0),
  some (am_q192, 6, 0),
  some (am_q193, 2, 2),
  some (am_q194, 6, 2),
  some (am_q195, 5, 4),
  some (am_q196, 17, 4),
  some (am_q197, 2, 4),
  some (am_q198, 2, 4),
  some (am_q199, 4, 1),
  some (am_q200, 2, 1),
  some (am_q201, 2, 1),
  some (am_q202, 2, 1),
  some (am_q203, 4, 3),
  some (am_q204, 4, 3),
  some (am_q205, 2, 3),
  some (am_q206, 6, 3),
  some (am_q207, 4, 0),
  some (am_q208, 5, 0)]
def am_Ys (j : Nat) : Option am_Y := match am_Yl[j]? with
  | some (some y) => some (fun pc => y.1.lookup pc, y.2.1, y.2.2)
  | _ => none
def am_y2 (nm : am_N) (oy : Option (List (Nat × am_Q) × Nat × Nat)) : Prop := match oy with
  | none => True
  | some y => nm.2.2.1 = y.2.1 ∧ am_rk nm.2.2.2 y.2.2 = true ∧ am_chk am_Nm nm.1.cls nm.2.1 y.1 = true
def am_al2 : List am_N → List (Option (List (Nat × am_Q) × Nat × Nat)) → Prop
  | [], [] => True
  | a :: as, b :: bs => am_y2 a b ∧ am_al2 as bs
  | _, _ => False
theorem am_al2_at : ∀ {as : List am_N} {bs : List (Option (List (Nat × am_Q) × Nat × Nat))} {j : Nat} {b : Option (List (Nat × am_Q) × Nat × Nat)}, am_al2 as bs → bs[j]? = some b → ∃ a, as[j]? = some a ∧ am_y2 a b
  | [], [], j, b, _, h => by simp at h
  | a :: as, c :: bs, 0, b, h, hj => by
    simp only [List.getElem?_cons_zero, Option.some.injEq] at hj
    subst hj
    exact ⟨a, rfl, h.1⟩
  | a :: as, c :: bs, j + 1, b, h, hj => by
    simp only [List.getElem?_cons_succ] at hj ⊢
    exact am_al2_at h.2 hj
  | [], _ :: _, _, _, h, _ => h.elim
  | _ :: _, [], _, _, h, _ => h.elim
set_option maxRecDepth 100000 in
set_option maxHeartbeats 4000000 in
theorem am_al2_ok : am_al2 am_Nl am_Yl := ⟨⟨rfl, rfl, am_c0⟩, ⟨⟨rfl, rfl, am_c1⟩, ⟨⟨rfl, rfl, am_c2⟩, ⟨⟨rfl, rfl, am_c3⟩, ⟨⟨rfl, rfl, am_c4⟩, ⟨⟨rfl, rfl, am_c5⟩, ⟨⟨rfl, rfl, am_c6⟩, ⟨⟨rfl, rfl, am_c7⟩, ⟨⟨rfl, rfl, am_c8⟩, ⟨⟨rfl, rfl, am_c9⟩, ⟨⟨rfl, rfl, am_c10⟩, ⟨⟨rfl, rfl, am_c11⟩, ⟨⟨rfl, rfl, am_c12⟩, ⟨⟨rfl, rfl, am_c13⟩, ⟨⟨rfl, rfl, am_c14⟩, ⟨⟨rfl, rfl, am_c15⟩, ⟨⟨rfl, rfl, am_c16⟩, ⟨⟨rfl, rfl, am_c17⟩, ⟨⟨rfl, rfl, am_c18⟩, ⟨⟨rfl, rfl, am_c19⟩, ⟨⟨rfl, rfl, am_c20⟩, ⟨⟨rfl, rfl, am_c21⟩, ⟨⟨rfl, rfl, am_c22⟩, ⟨⟨rfl, rfl, am_c23⟩, ⟨⟨rfl, rfl, am_c24⟩, ⟨⟨rfl, rfl, am_c25⟩, ⟨⟨rfl, rfl, am_c26⟩, ⟨⟨rfl, rfl, am_c27⟩, ⟨⟨rfl, rfl, am_c28⟩, ⟨⟨rfl, rfl, am_c29⟩, ⟨⟨rfl, rfl, am_c30⟩, ⟨⟨rfl, rfl, am_c31⟩, ⟨⟨rfl, rfl, am_c32⟩, ⟨⟨rfl, rfl, am_c33⟩, ⟨⟨rfl, rfl, am_c34⟩, ⟨⟨rfl, rfl, am_c35⟩, ⟨⟨rfl, rfl, am_c36⟩, ⟨⟨rfl, rfl, am_c37⟩, ⟨⟨rfl, rfl, am_c38⟩, ⟨⟨rfl, rfl, am_c39⟩, ⟨⟨rfl, rfl, am_c40⟩, ⟨⟨rfl, rfl, am_c41⟩, ⟨⟨rfl, rfl, am_c42⟩, ⟨⟨rfl, rfl, am_c43⟩, ⟨⟨rfl, rfl, am_c44⟩, ⟨⟨rfl, rfl, am_c45⟩, ⟨⟨rfl, rfl, am_c46⟩, ⟨⟨rfl, rfl, am_c47⟩, ⟨⟨rfl, rfl, am_c48⟩, ⟨⟨rfl, rfl, am_c49⟩, ⟨⟨rfl, rfl, am_c50⟩, ⟨⟨rfl, rfl, am_c51⟩, ⟨⟨rfl, rfl, am_c52⟩, ⟨⟨rfl, rfl, am_c53⟩, ⟨⟨rfl, rfl, am_c54⟩, ⟨⟨rfl, rfl, am_c55⟩, ⟨⟨rfl, rfl, am_c56⟩, ⟨⟨rfl, rfl, am_c57⟩, ⟨⟨rfl, rfl, am_c58⟩, ⟨⟨rfl, rfl, am_c59⟩, ⟨⟨rfl, rfl, am_c60⟩, ⟨⟨rfl, rfl, am_c61⟩, ⟨⟨rfl, rfl, am_c62⟩, ⟨⟨rfl, rfl, am_c63⟩, ⟨⟨rfl, rfl, am_c64⟩, ⟨⟨rfl, rfl, am_c65⟩, ⟨⟨rfl, rfl, am_c66⟩, ⟨⟨rfl, rfl, am_c67⟩, ⟨⟨rfl, rfl, am_c68⟩, ⟨⟨rfl, rfl, am_c69⟩, ⟨⟨rfl, rfl, am_c70⟩, ⟨⟨rfl, rfl, am_c71⟩, ⟨⟨rfl, rfl, am_c72⟩, ⟨⟨rfl, rfl, am_c73⟩, ⟨⟨rfl, rfl, am_c74⟩, ⟨⟨rfl, rfl, am_c75⟩, ⟨⟨rfl, rfl, am_c76⟩, ⟨⟨rfl, rfl, am_c77⟩, ⟨⟨rfl, rfl, am_c78⟩, ⟨⟨rfl, rfl, am_c79⟩, ⟨⟨rfl, rfl, am_c80⟩, ⟨⟨rfl, rfl, am_c81⟩, ⟨⟨rfl, rfl, am_c82⟩, ⟨⟨rfl, rfl, am_c83⟩, ⟨⟨rfl, rfl, am_c84⟩, ⟨⟨rfl, rfl, am_c85⟩, ⟨⟨rfl, rfl, am_c86⟩, ⟨trivial, ⟨⟨rfl, rfl, am_c88⟩, ⟨⟨rfl, rfl, am_c89⟩, ⟨⟨rfl, rfl, am_c90⟩, ⟨⟨rfl, rfl, am_c91⟩, ⟨⟨rfl, rfl, am_c92⟩, ⟨⟨rfl, rfl, am_c93⟩, ⟨⟨rfl, rfl, am_c94⟩, ⟨⟨rfl, rfl, am_c95⟩, ⟨⟨rfl, rfl, am_c96⟩, ⟨⟨rfl, rfl, am_c97⟩, ⟨⟨rfl, rfl, am_c98⟩, ⟨⟨rfl, rfl, am_c99⟩, ⟨⟨rfl, rfl, am_c100⟩, ⟨⟨rfl, rfl, am_c101⟩, ⟨⟨rfl, rfl, am_c102⟩, ⟨⟨rfl, rfl, am_c103⟩, ⟨⟨rfl, rfl, am_c104⟩, ⟨⟨rfl, rfl, am_c105⟩, ⟨⟨rfl, rfl, am_c106⟩, ⟨⟨rfl, rfl, am_c107⟩, ⟨trivial, ⟨⟨rfl, rfl, am_c109⟩, ⟨⟨rfl, rfl, am_c110⟩, ⟨⟨rfl, rfl, am_c111⟩, ⟨⟨rfl, rfl, am_c112⟩, ⟨⟨rfl, rfl, am_c113⟩, ⟨⟨rfl, rfl, am_c114⟩, ⟨⟨rfl, rfl, am_c115⟩, ⟨⟨rfl, rfl, am_c116⟩, ⟨⟨rfl, rfl, am_c117⟩, ⟨⟨rfl, rfl, am_c118⟩, ⟨⟨rfl, rfl, am_c119⟩, ⟨⟨rfl, rfl, am_c120⟩, ⟨⟨rfl, rfl, am_c121⟩, ⟨⟨rfl, rfl, am_c122⟩, ⟨⟨rfl, rfl, am_c123⟩, ⟨⟨rfl, rfl, am_c124⟩, ⟨⟨rfl, rfl, am_c125⟩, ⟨⟨rfl, rfl, am_c126⟩, ⟨⟨rfl, rfl, am_c127⟩, ⟨⟨rfl, rfl, am_c128⟩, ⟨⟨rfl, rfl, am_c129⟩, ⟨⟨rfl, rfl, am_c130⟩, ⟨⟨rfl, rfl, am_c131⟩, ⟨⟨rfl, rfl, am_c132⟩, ⟨⟨rfl, rfl, am_c133⟩, ⟨⟨rfl, rfl, am_c134⟩, ⟨⟨rfl, rfl, am_c135⟩, ⟨⟨rfl, rfl, am_c136⟩, ⟨⟨rfl, rfl, am_c137⟩, ⟨⟨rfl, rfl, am_c138⟩, ⟨⟨rfl, rfl, am_c139⟩, ⟨⟨rfl, rfl, am_c140⟩, ⟨⟨rfl, rfl, am_c141⟩, ⟨⟨rfl, rfl, am_c142⟩, ⟨⟨rfl, rfl, am_c143⟩, ⟨⟨rfl, rfl, am_c144⟩, ⟨⟨rfl, rfl, am_c145⟩, ⟨⟨rfl, rfl, am_c146⟩, ⟨⟨rfl, rfl, am_c147⟩, ⟨⟨rfl, rfl, am_c148⟩, ⟨⟨rfl, rfl, am_c149⟩, ⟨⟨rfl, rfl, am_c150⟩, ⟨⟨rfl, rfl, am_c151⟩, ⟨⟨rfl, rfl, am_c152⟩, ⟨⟨rfl, rfl, am_c153⟩, ⟨⟨rfl, rfl, am_c154⟩, ⟨⟨rfl, rfl, am_c155⟩, ⟨⟨rfl, rfl, am_c156⟩, ⟨⟨rfl, rfl, am_c157⟩, ⟨⟨rfl, rfl, am_c158⟩, ⟨⟨rfl, rfl, am_c159⟩, ⟨⟨rfl, rfl, am_c160⟩, ⟨⟨rfl, rfl, am_c161⟩, ⟨⟨rfl, rfl, am_c162⟩, ⟨⟨rfl, rfl, am_c163⟩, ⟨⟨rfl, rfl, am_c164⟩, ⟨⟨rfl, rfl, am_c165⟩, ⟨⟨rfl, rfl, am_c166⟩, ⟨⟨rfl, rfl, am_c167⟩, ⟨⟨rfl, rfl, am_c168⟩, ⟨⟨rfl, rfl, am_c169⟩, ⟨⟨rfl, rfl, am_c170⟩, ⟨⟨rfl, rfl, am_c171⟩, ⟨⟨rfl, rfl, am_c172⟩, ⟨⟨rfl, rfl, am_c173⟩, ⟨⟨rfl, rfl, am_c174⟩, ⟨⟨rfl, rfl, am_c175⟩, ⟨⟨rfl, rfl, am_c176⟩, ⟨⟨rfl, rfl, am_c177⟩, ⟨⟨rfl, rfl, am_c178⟩, ⟨⟨rfl, rfl, am_c179⟩, ⟨⟨rfl, rfl, am_c180⟩, ⟨⟨rfl, rfl, am_c181⟩, ⟨⟨rfl, rfl, am_c182⟩, ⟨⟨rfl, rfl, am_c183⟩, ⟨⟨rfl, rfl, am_c184⟩, ⟨⟨rfl, rfl, am_c185⟩, ⟨⟨rfl, rfl, am_c186⟩, ⟨⟨rfl, rfl, am_c187⟩, ⟨⟨rfl, rfl, am_c188⟩, ⟨⟨rfl, rfl, am_c189⟩, ⟨⟨rfl, rfl, am_c190⟩, ⟨⟨rfl, rfl, am_c191⟩, ⟨⟨rfl, rfl, am_c192⟩, ⟨⟨rfl, rfl, am_c193⟩, ⟨⟨rfl, rfl, am_c194⟩, ⟨⟨rfl, rfl, am_c195⟩, ⟨⟨rfl, rfl, am_c196⟩, ⟨⟨rfl, rfl, am_c197⟩, ⟨⟨rfl, rfl, am_c198⟩, ⟨⟨rfl, rfl, am_c199⟩, ⟨⟨rfl, rfl, am_c200⟩, ⟨⟨rfl, rfl, am_c201⟩, ⟨⟨rfl, rfl, am_c202⟩, ⟨⟨rfl, rfl, am_c203⟩, ⟨⟨rfl, rfl, am_c204⟩, ⟨⟨rfl, rfl, am_c205⟩, ⟨⟨rfl, rfl, am_c206⟩, ⟨⟨rfl, rfl, am_c207⟩, ⟨⟨rfl, rfl, am_c208⟩, trivial⟩⟩⟩⟩⟩⟩⟩⟩⟩⟩⟩⟩⟩⟩⟩⟩⟩⟩⟩⟩⟩⟩⟩⟩⟩⟩⟩⟩⟩⟩⟩⟩⟩⟩⟩⟩⟩⟩⟩⟩⟩⟩⟩⟩⟩⟩⟩⟩⟩⟩⟩⟩⟩⟩⟩⟩⟩⟩⟩⟩⟩⟩⟩⟩⟩⟩⟩⟩⟩⟩⟩⟩⟩⟩⟩⟩⟩⟩⟩⟩⟩⟩⟩⟩⟩⟩⟩⟩⟩⟩⟩⟩⟩⟩⟩⟩⟩⟩⟩⟩⟩⟩⟩⟩⟩⟩⟩⟩⟩⟩⟩⟩⟩⟩⟩⟩⟩⟩⟩⟩⟩⟩⟩⟩⟩⟩⟩⟩⟩⟩⟩⟩⟩⟩⟩⟩⟩⟩⟩⟩⟩⟩⟩⟩⟩⟩⟩⟩⟩⟩⟩⟩⟩⟩⟩⟩⟩⟩⟩⟩⟩⟩⟩⟩⟩⟩⟩⟩⟩⟩⟩⟩⟩⟩⟩⟩⟩⟩⟩⟩⟩⟩⟩⟩⟩⟩⟩⟩⟩⟩⟩⟩⟩⟩⟩⟩⟩⟩⟩⟩⟩⟩⟩⟩⟩⟩⟩⟩⟩
theorem am_yk_ok : am_yk am_cl am_U am_Nm am_Ys := by
  intro j y hy
  unfold am_Ys at hy
  split at hy
  · next z hz =>
    obtain ⟨nm, hnm, h1, h2, h3⟩ := am_al2_at am_al2_ok hz
    cases hy
    exact ⟨nm, hnm, h1, h2, fun pc q hq => am_chk_at h3 hq⟩
  · cases hy
def am_cp : List Nat := [921, 935, 939, 745, 951, 955, 1025, 968, 974, 979, 960, 964, 983, 1011, 987, 1015, 1018, 990, 1021, 995, 1002, 733, 729, 737, 913, 690, 698, 714, 741, 718, 721, 172, 603, 651, 702, 686, 635, 639, 667, 710, 487, 591, 599, 595, 611, 682, 615, 670, 619, 631, 643, 647, 655, 659, 663, 674, 678, 623, 627, 607, 777, 824, 782, 808, 787, 812, 843, 858, 862, 866, 835, 839, 869, 875, 846, 849, 854, 793, 798, 816, 820, 828, 831, 491, 508, 501, 515, 518, 494, 497, 511, 586, 475, 479, 483, 751, 755, 769, 883, 879, 887, 892, 897, 904, 909, 917, 928, 943, 1039, 947, 1030, 759, 765, 772, 931, 1339, 1343, 1471, 1374, 1359, 1355, 1363, 1366, 1351, 1382, 1378, 1402, 1433, 1441, 1410, 1437, 1398, 1394, 1422, 1418, 1406, 1414, 1390, 1426, 1430, 1445, 1386, 1370, 1449, 1347, 1453, 1460, 1457, 1468, 1565, 1484, 1492, 1501, 1480, 1523, 1530, 1533, 1519, 1508, 1504, 1512, 1488, 1497, 1516, 1527, 1537, 1541, 1545, 1553, 1549, 1476, 1557, 1464, 1561, 1569, 1574, 1594, 1597, 1587, 1591, 1583, 1579, 1602, 1607, 1611, 1619, 1615, 1625, 1641, 1653, 1649, 1637, 1645, 1659, 1671, 1674, 1656, 1633, 1629, 1678, 1683, 706, 504, 804, 801, 724, 872, 175, 693]
def am_ip : List Nat := [143, 143, 143, 142, 142, 142, 142, 142, 142, 142, 142, 142, 142, 142, 142, 142, 142, 142, 142, 142, 142, 141, 141, 141, 141, 141, 141, 141, 141, 141, 141, 136, 136, 136, 136, 136, 136, 136, 136, 136, 138, 138, 138, 138, 138, 138, 138, 138, 138, 138, 138, 138, 138, 138, 138, 138, 138, 138, 138, 138, 140, 140, 140, 140, 140, 140, 140, 140, 140, 140, 140, 140, 140, 140, 140, 140, 140, 140, 140, 140, 140, 140, 140, 139, 139, 139, 139, 139, 139, 139, 139, 139, 135, 135, 135, 135, 135, 135, 135, 135, 135, 135, 135, 135, 135, 135, 135, 135, 135, 135, 135, 135, 135, 135, 135, 144, 144, 144, 144, 144, 144, 144, 144, 144, 144, 144, 144, 144, 144, 144, 144, 144, 144, 144, 144, 144, 144, 144, 144, 144, 144, 144, 144, 144, 144, 144, 144, 144, 144, 144, 144, 144, 144, 144, 144, 144, 144, 144, 144, 144, 144, 144, 144, 144, 144, 144, 144, 144, 144, 144, 144, 144, 144, 144, 144, 144, 144, 144, 144, 144, 144, 144, 144, 144, 144, 144, 144, 144, 144, 144, 144, 144, 144, 144, 144, 144, 144, 144, 144, 144, 144, 145, 145, 145, 145, 145, 145, 137, 137]
set_option maxRecDepth 100000 in
set_option maxHeartbeats 4000000 in
theorem am_codes : am_Nl.map (fun nm => Cond.code nm.1 nm.2.1 nm.2.2.1 nm.2.2.2) = am_cp.filterMap (fun i => lw_tbl[i]?) := rfl
def am_plF : List MethodName := [⟨"java/lang/Math", "max", "(II)I"⟩, ⟨"java/lang/Math", "min", "(II)I"⟩, ⟨"java/lang/Math", "max", "(JJ)J"⟩, ⟨"java/lang/Math", "min", "(JJ)J"⟩, ⟨"java/lang/Math", "abs", "(J)J"⟩, ⟨"java/lang/Math", "floorDiv", "(JJ)J"⟩]
theorem am_plF_ok : ∀ y ∈ am_plF, plainFor y = true := by decide +kernel
set_option maxRecDepth 100000 in
theorem am_names : (am_Nl.zip am_ip).all (fun x => (plainName x.1.1.cls || am_plF.contains x.1.1) && Nat.ble x.1.2.2.1 45 && am_at x.2 (Cond.initialized x.1.1.cls) && decide (x.1.1.cls ≠ "java/lang/invoke/MethodHandle") && decide (x.1.1.cls ≠ "java/lang/invoke/VarHandle") && goodWord (Cond.code x.1.1 x.1.2.1 x.1.2.2.1 x.1.2.2.2)) = true := by decide +kernel
theorem am_ip_len : am_Nl.length = am_ip.length := by decide +kernel
theorem am_nk_ok : ∀ j nm, am_Nm j = some nm → am_nk am_U nm := by
  intro j nm h
  have hl : j < am_ip.length := by rw [← am_ip_len]; exact (List.getElem?_eq_some_iff.mp h).1
  have hz : (am_Nl.zip am_ip)[j]? = some (nm, am_ip[j]) := by
    rw [List.getElem?_zip_eq_some]
    exact ⟨h, List.getElem?_eq_getElem hl⟩
  have h1 := List.all_eq_true.mp am_names _ (List.mem_of_getElem? hz)
  simp only [Bool.and_eq_true, decide_eq_true_eq] at h1
  obtain ⟨⟨⟨⟨⟨g1, g2⟩, g3⟩, g4⟩, g5⟩, g6⟩ := h1
  have hm : Cond.code nm.1 nm.2.1 nm.2.2.1 nm.2.2.2 ∈ lw_tbl := by
    have h2 : Cond.code nm.1 nm.2.1 nm.2.2.1 nm.2.2.2 ∈ am_Nl.map (fun nm => Cond.code nm.1 nm.2.1 nm.2.2.1 nm.2.2.2) := List.mem_map.mpr ⟨nm, List.mem_of_getElem? h, rfl⟩
    rw [am_codes] at h2
    obtain ⟨i, -, hi⟩ := List.mem_filterMap.mp h2
    exact List.mem_of_getElem? hi
  have g0 : plainFor nm.1 = true := by
    rcases Bool.or_eq_true_iff.mp g1 with h9 | h9
    · exact plainFor_of_name h9
    · exact am_plF_ok _ (List.contains_iff_mem.mp h9)
  exact ⟨g0, Nat.le_of_ble_eq_true g2, List.mem_filter.mpr ⟨hm, by rw [g6]; rfl⟩, am_at_mem g3, g4, g5⟩
