/-! The law: its world, its rows -/
def LX (K : Nat → ClassId) (a0 : Nat) (D : Nat → Md) (Rn : Nat) (am : Nat → Nat) (a0_tape : Nat) (v_o_tapeLength : Int32) (a0_text : Nat) (a0_book : Nat) (a0_comparison : Nat) (a0_stream : Nat) (f_o_tape : Nat → Int32) (a0_book_modes : Nat) (a0_book_machines : Nat) (a0_book_builder : Nat) (a0_book_modeOfRule : Nat) (a0_book_actionOfRule : Nat) (f_o_book_modeOfRule : Nat → Int32) (a0_stream_tokens : Nat) (v_o_stream_isThere : Int32) (v_o_stream_isEnded : Int32) (v_o_stream_mode : Int32) (a0_stream_kept : Nat) (v_o_stream_keptCount : Int32) (v_o_stream_came : Int32) (a0_stream_pending : Nat) (v_o_stream_pendingCount : Int32) (v_o_stream_looked : Int32) (v_o_stream_state : Int32) (v_o_stream_matched : Int32) (v_o_stream_matchedRule : Int32) (a0_stream_tokens_facts : Nat) (v_o_stream_tokens_oldest : Int32) (v_o_stream_tokens_size : Int32) (f_o_stream_pending : Nat → Int32) (f_o_stream_tokens_facts : Nat → Int32) (f_o_stream_kept : Nat → Int32) (f_o_book_actionOfRule : Nat → Int32) (a0_comparison_leader : Nat) (a0_comparison_left : Nat) (a0_comparison_right : Nat) (a0_comparison_before : Nat) (a0_comparison_letters : Nat) (v_o_comparison_pairs : Int32) (v_o_comparison_length : Int32) (v_o_comparison_one : Int32) (v_o_comparison_other : Int32) (f_o_comparison_leader : Nat → Int32) (f_o_comparison_left : Nat → Int32) (f_o_comparison_right : Nat → Int32) (f_o_comparison_before : Nat → Int32) (f_o_comparison_letters : Nat → Int32) (w_o_text_noWord : Nat) (w_o_text_emptyWord : Nat) (a0_text_set : Nat) (a0_text_choices : Nat) (a0_text_sequences : Nat) (a0_text_parts : Nat) (v_o_text_depth : Int32) (a0_text_letters : Nat) (a0_text_followers : Nat) (v_o_text_places : Int32) (v_o_text_set_isOpen : Int32) (v_o_text_set_isFresh : Int32) (v_o_text_set_isOfOthers : Int32) (v_o_text_set_isBehindDash : Int32) (v_o_text_set_named : Int32) (v_o_text_set_from : Int32) (f_o_text_choices : Nat → Option Nat) (f_o_text_sequences : Nat → Option Nat) (f_o_text_parts : Nat → Option Nat) (f_o_text_followers : Nat → Int32) (f_o_text_letters : Nat → Int32) (a0_book_modes_0 : Nat) (a0_book_modes_1 : Nat) (a0_book_modes_2 : Nat) (a0_book_modes_0_letters : Nat) (a0_book_modes_0_followers : Nat) (a0_book_modes_0_rules : Nat) (a0_book_modes_1_letters : Nat) (a0_book_modes_1_followers : Nat) (a0_book_modes_1_rules : Nat) (a0_book_modes_2_letters : Nat) (a0_book_modes_2_followers : Nat) (a0_book_modes_2_rules : Nat) (a0_book_builder_placesOf : Nat) (a0_book_builder_found : Nat) (v_o_book_builder_foundCount : Int32) (a0_book_builder_behind : Nat) (a0_book_builder_groups : Nat) (a0_book_builder_finerGroups : Nat) (a0_book_builder_newest : Nat) (a0_book_builder_older : Nat) (a0_book_builder_sample : Nat) (f_o_book_builder_placesOf : Nat → Int32) (f_o_book_builder_groups : Nat → Int32) (f_o_book_builder_found : Nat → Int32) (f_o_book_builder_behind : Nat → Int32) (f_o_book_builder_newest : Nat → Int32) (f_o_book_builder_sample : Nat → Int32) (f_o_book_builder_older : Nat → Int32) (f_o_book_builder_finerGroups : Nat → Int32) : va_W := [(a0, .inr (0, [.ref a0_tape, .int v_o_tapeLength, .ref a0_text, .ref a0_book, .ref a0_comparison, .ref a0_stream])), (a0_tape, .inl (K 0, 24, .inl f_o_tape)), (a0_book, .inr (8, [.ref a0_book_modes, .ref a0_book_machines, .ref a0_book_builder, .ref a0_book_modeOfRule, .ref a0_book_actionOfRule, .int (nI Rn)])), (a0_book_machines, .inl (K 4, 3, .inr (.inr (.inr (.inr (el3 (some (am 0)) (some (am 1)) (some (am 2)))))))), (a0_book_modeOfRule, .inl (K 0, 16, .inl f_o_book_modeOfRule)), (a0_stream, .inr (10, [.ref a0_stream_tokens, .int v_o_stream_isThere, .int v_o_stream_isEnded, .int v_o_stream_mode, .ref a0_stream_kept, .int v_o_stream_keptCount, .int v_o_stream_came, .ref a0_stream_pending, .int v_o_stream_pendingCount, .int v_o_stream_looked, .int v_o_stream_state, .int v_o_stream_matched, .int v_o_stream_matchedRule])), (a0_stream_tokens, .inr (11, [.ref a0_stream_tokens_facts, .int v_o_stream_tokens_oldest, .int v_o_stream_tokens_size])), (a0_stream_pending, .inl (K 0, 48, .inl f_o_stream_pending)), (a0_stream_tokens_facts, .inl (K 0, 288, .inl f_o_stream_tokens_facts)), (a0_stream_kept, .inl (K 0, 5, .inl f_o_stream_kept)), (a0_book_actionOfRule, .inl (K 0, 16, .inl f_o_book_actionOfRule)), (a0_comparison, .inr (1, [.ref a0_comparison_leader, .ref a0_comparison_left, .ref a0_comparison_right, .ref a0_comparison_before, .ref a0_comparison_letters, .int v_o_comparison_pairs, .int v_o_comparison_length, .int v_o_comparison_one, .int v_o_comparison_other])), (a0_comparison_leader, .inl (K 0, 1026, .inl f_o_comparison_leader)), (a0_comparison_left, .inl (K 0, 1027, .inl f_o_comparison_left)), (a0_comparison_right, .inl (K 0, 1027, .inl f_o_comparison_right)), (a0_comparison_before, .inl (K 0, 1027, .inl f_o_comparison_before)), (a0_comparison_letters, .inl (K 0, 1027, .inl f_o_comparison_letters)), (a0_text, .inr (9, [.ref w_o_text_noWord, .ref w_o_text_emptyWord, .ref a0_text_set, .ref a0_text_choices, .ref a0_text_sequences, .ref a0_text_parts, .int v_o_text_depth, .ref a0_text_letters, .ref a0_text_followers, .int v_o_text_places])), (a0_text_set, .inr (3, [.int v_o_text_set_isOpen, .int v_o_text_set_isFresh, .int v_o_text_set_isOfOthers, .int v_o_text_set_isBehindDash, .int v_o_text_set_named, .int v_o_text_set_from])), (a0_text_choices, .inl (K 2, 5, .inr (.inr (.inr (.inr f_o_text_choices))))), (a0_text_sequences, .inl (K 2, 5, .inr (.inr (.inr (.inr f_o_text_sequences))))), (a0_text_parts, .inl (K 2, 5, .inr (.inr (.inr (.inr f_o_text_parts))))), (a0_text_followers, .inl (K 0, 24, .inl f_o_text_followers)), (a0_text_letters, .inl (K 0, 24, .inl f_o_text_letters)), (a0_book_modes, .inl (K 3, 3, .inr (.inr (.inr (.inr (el3 (some a0_book_modes_0) (some a0_book_modes_1) (some a0_book_modes_2))))))), (a0_book_modes_0, .inr (6, [.ref a0_book_modes_0_letters, .ref a0_book_modes_0_followers, .ref a0_book_modes_0_rules, .int (nI (D 0).P), .int (D 0).fi, .int (D 0).la])), (a0_book_modes_1, .inr (6, [.ref a0_book_modes_1_letters, .ref a0_book_modes_1_followers, .ref a0_book_modes_1_rules, .int (nI (D 1).P), .int (D 1).fi, .int (D 1).la])), (a0_book_modes_2, .inr (6, [.ref a0_book_modes_2_letters, .ref a0_book_modes_2_followers, .ref a0_book_modes_2_rules, .int (nI (D 2).P), .int (D 2).fi, .int (D 2).la])), (a0_book_modes_0_letters, .inl (K 0, 9, .inl (D 0).lt)), (a0_book_modes_0_followers, .inl (K 0, 9, .inl (D 0).fo)), (a0_book_modes_0_rules, .inl (K 0, 9, .inl (D 0).ru)), (a0_book_builder, .inr (5, [.ref a0_book_builder_placesOf, .ref a0_book_builder_found, .int v_o_book_builder_foundCount, .ref a0_book_builder_behind, .ref a0_book_builder_groups, .ref a0_book_builder_finerGroups, .ref a0_book_builder_newest, .ref a0_book_builder_older, .ref a0_book_builder_sample])), (a0_book_builder_placesOf, .inl (K 0, 6, .inl f_o_book_builder_placesOf)), (a0_book_builder_groups, .inl (K 0, 512, .inl f_o_book_builder_groups)), (a0_book_builder_found, .inl (K 0, 512, .inl f_o_book_builder_found)), (a0_book_builder_behind, .inl (K 0, 512, .inl f_o_book_builder_behind)), (a0_book_builder_newest, .inl (K 0, 512, .inl f_o_book_builder_newest)), (a0_book_builder_sample, .inl (K 0, 512, .inl f_o_book_builder_sample)), (a0_book_builder_older, .inl (K 0, 512, .inl f_o_book_builder_older)), (a0_book_builder_finerGroups, .inl (K 0, 512, .inl f_o_book_builder_finerGroups)), (a0_book_modes_1_letters, .inl (K 0, 9, .inl (D 1).lt)), (a0_book_modes_1_followers, .inl (K 0, 9, .inl (D 1).fo)), (a0_book_modes_1_rules, .inl (K 0, 9, .inl (D 1).ru)), (a0_book_modes_2_letters, .inl (K 0, 9, .inl (D 2).lt)), (a0_book_modes_2_followers, .inl (K 0, 9, .inl (D 2).fo)), (a0_book_modes_2_rules, .inl (K 0, 9, .inl (D 2).ru))]
def LM (K : Nat → ClassId) (b0 : Nat) (ad : Nat → Nat) (Rn : Nat) (mv_code : Int32) (mv_typed : Int32) (mv_at : Int32) (mv_read : Int32) (mv_depth : Int32) (mv_wrong : Int32) (mv_there : Int32) (mv_ended : Int32) (mv_mode : Int32) (mv_kept : Int32) (mv_came : Int32) (mv_pending : Int32) (mv_looked : Int32) (mv_tokens : Int32) (mv_oldest : Int32) (mf_tape : Nat → Int32) (mf_choiceFirst : Nat → Int32) (mf_choiceLast : Nat → Int32) (mf_choiceEmpty : Nat → Int32) (mf_rowFirst : Nat → Int32) (mf_rowLast : Nat → Int32) (mf_rowEmpty : Nat → Int32) (mf_hasPart : Nat → Int32) (mf_partFirst : Nat → Int32) (mf_readBehind : Nat → Int32) (mf_partLast : Nat → Int32) (mf_partEmpty : Nat → Int32) (mf_readLetters : Nat → Int32) (mf_many : Nat → Int32) (mf_letters : Nat → Int32) (mf_ruleAt : Nat → Int32) (mf_behind : Nat → Int32) (mf_modeOf : Nat → Int32) (mf_actionOf : Nat → Int32) (mf_firstOf : Nat → Int32) (mf_lastOf : Nat → Int32) (mf_made : Nat → Int32) (mf_nodes : Nat → Int32) (mf_set : Nat → Int32) (mf_step : Nat → Int32) (mf_group : Nat → Int32) (mf_sample : Nat → Int32) (mf_fresh : Nat → Int32) (mf_groups : Nat → Int32) (mf_now : Nat → Int32) (mf_then : Nat → Int32) (mf_seen : Nat → Int32) (mf_front : Nat → Int32) (mf_ahead : Nat → Int32) (mf_letter : Nat → Int32) (mf_tokenRule : Nat → Int32) (mf_tokenAt : Nat → Int32) (mf_tokenLong : Nat → Int32) (mf_tokenMode : Nat → Int32) (mf_keep : Nat → Int32) : va_W := [(b0, .inr (12, oM mv_code mv_typed (nI Rn) mv_at mv_read mv_depth mv_wrong mv_there mv_ended mv_mode mv_kept mv_came mv_pending mv_looked mv_tokens mv_oldest ad)), ((ad 1), .inl (K 0, 24, .inl mf_tape)), ((ad 18), .inl (K 0, 6, .inl mf_choiceFirst)), ((ad 19), .inl (K 0, 6, .inl mf_choiceLast)), ((ad 24), .inl (K 1, 6, .inl mf_choiceEmpty)), ((ad 20), .inl (K 0, 6, .inl mf_rowFirst)), ((ad 21), .inl (K 0, 6, .inl mf_rowLast)), ((ad 25), .inl (K 1, 6, .inl mf_rowEmpty)), ((ad 27), .inl (K 1, 6, .inl mf_hasPart)), ((ad 22), .inl (K 0, 6, .inl mf_partFirst)), ((ad 17), .inl (K 0, 24, .inl mf_readBehind)), ((ad 23), .inl (K 0, 6, .inl mf_partLast)), ((ad 26), .inl (K 1, 6, .inl mf_partEmpty)), ((ad 16), .inl (K 0, 24, .inl mf_readLetters)), ((ad 8), .inl (K 0, 3, .inl mf_many)), ((ad 9), .inl (K 0, 27, .inl mf_letters)), ((ad 10), .inl (K 0, 27, .inl mf_ruleAt)), ((ad 11), .inl (K 0, 27, .inl mf_behind)), ((ad 4), .inl (K 0, 16, .inl mf_modeOf)), ((ad 5), .inl (K 0, 16, .inl mf_actionOf)), ((ad 6), .inl (K 0, 16, .inl mf_firstOf)), ((ad 7), .inl (K 0, 16, .inl mf_lastOf)), ((ad 34), .inl (K 1, 3, .inl mf_made)), ((ad 28), .inl (K 0, 3, .inl mf_nodes)), ((ad 29), .inl (K 0, 1542, .inl mf_set)), ((ad 30), .inl (K 0, 9252, .inl mf_step)), ((ad 31), .inl (K 0, 1542, .inl mf_group)), ((ad 33), .inl (K 0, 1542, .inl mf_sample)), ((ad 50), .inl (K 0, 514, .inl mf_fresh)), ((ad 32), .inl (K 0, 3, .inl mf_groups)), ((ad 51), .inl (K 1, 514, .inl mf_now)), ((ad 52), .inl (K 1, 514, .inl mf_then)), ((ad 53), .inl (K 0, 8290, .inl mf_seen)), ((ad 54), .inl (K 0, 8290, .inl mf_front)), ((ad 55), .inl (K 0, 8290, .inl mf_ahead)), ((ad 43), .inl (K 0, 48, .inl mf_letter)), ((ad 46), .inl (K 0, 400, .inl mf_tokenRule)), ((ad 47), .inl (K 0, 400, .inl mf_tokenAt)), ((ad 48), .inl (K 0, 400, .inl mf_tokenLong)), ((ad 49), .inl (K 0, 400, .inl mf_tokenMode)), ((ad 42), .inl (K 0, 5, .inl mf_keep))]
def MF (K : Nat → ClassId) (am aw aa : Nat → Nat) (n : Nat → Nat) (fa fw : Nat → Nat → Int32) (gap kn : Nat → Int32) : va_W := [(am 0, .inr (4, [.ref (aa 0), .ref (aw 0), .int (gap 0), .int (kn 0)])), (aw 0, .inl (K 0, n 0, .inl (fw 0))), (aa 0, .inl (K 0, 6 * n 0, .inl (fa 0))), (am 1, .inr (4, [.ref (aa 1), .ref (aw 1), .int (gap 1), .int (kn 1)])), (aw 1, .inl (K 0, n 1, .inl (fw 1))), (aa 1, .inl (K 0, 6 * n 1, .inl (fa 1))), (am 2, .inr (4, [.ref (aa 2), .ref (aw 2), .int (gap 2), .int (kn 2)])), (aw 2, .inl (K 0, n 2, .inl (fw 2))), (aa 2, .inl (K 0, 6 * n 2, .inl (fa 2)))]
set_option maxRecDepth 10000 in
def LJ (G : va_G) (K : Nat → ClassId) (A : Nat → Prop) (a0 b0 ao : Nat) (H : Heap) : Prop := ∀ (C : Prop), (∀ (D : Nat → Md) (Rn : Nat) (am : Nat → Nat) (aw : Nat → Nat) (aa : Nat → Nat) (ad : Nat → Nat) (n : Nat → Nat) (fa : Nat → Nat → Int32) (fw : Nat → Nat → Int32) (gap : Nat → Int32) (kn : Nat → Int32) (Gm : Nat → Nat → Nat) (sN : Nat → Nat → Nat) (ac : Nat → Nat) (tp : Nat → Nat) (t : Nat) (S1 : SS) (oc1 : Nat) (or1 : Nat) (LP : List Nat) (PF : Nat → Pc) (fo : Nat → Int64) (a0_tape : Nat) (v_o_tapeLength : Int32) (a0_text : Nat) (a0_book : Nat) (a0_comparison : Nat) (a0_stream : Nat) (f_o_tape : Nat → Int32) (a0_book_modes : Nat) (a0_book_machines : Nat) (a0_book_builder : Nat) (a0_book_modeOfRule : Nat) (a0_book_actionOfRule : Nat) (f_o_book_modeOfRule : Nat → Int32) (a0_stream_tokens : Nat) (v_o_stream_isThere : Int32) (v_o_stream_isEnded : Int32) (v_o_stream_mode : Int32) (a0_stream_kept : Nat) (v_o_stream_keptCount : Int32) (v_o_stream_came : Int32) (a0_stream_pending : Nat) (v_o_stream_pendingCount : Int32) (v_o_stream_looked : Int32) (v_o_stream_state : Int32) (v_o_stream_matched : Int32) (v_o_stream_matchedRule : Int32) (a0_stream_tokens_facts : Nat) (v_o_stream_tokens_oldest : Int32) (v_o_stream_tokens_size : Int32) (f_o_stream_pending : Nat → Int32) (f_o_stream_tokens_facts : Nat → Int32) (f_o_stream_kept : Nat → Int32) (f_o_book_actionOfRule : Nat → Int32) (a0_comparison_leader : Nat) (a0_comparison_left : Nat) (a0_comparison_right : Nat) (a0_comparison_before : Nat) (a0_comparison_letters : Nat) (v_o_comparison_pairs : Int32) (v_o_comparison_length : Int32) (v_o_comparison_one : Int32) (v_o_comparison_other : Int32) (f_o_comparison_leader : Nat → Int32) (f_o_comparison_left : Nat → Int32) (f_o_comparison_right : Nat → Int32) (f_o_comparison_before : Nat → Int32) (f_o_comparison_letters : Nat → Int32) (w_o_text_noWord : Nat) (w_o_text_emptyWord : Nat) (a0_text_set : Nat) (a0_text_choices : Nat) (a0_text_sequences : Nat) (a0_text_parts : Nat) (v_o_text_depth : Int32) (a0_text_letters : Nat) (a0_text_followers : Nat) (v_o_text_places : Int32) (v_o_text_set_isOpen : Int32) (v_o_text_set_isFresh : Int32) (v_o_text_set_isOfOthers : Int32) (v_o_text_set_isBehindDash : Int32) (v_o_text_set_named : Int32) (v_o_text_set_from : Int32) (f_o_text_choices : Nat → Option Nat) (f_o_text_sequences : Nat → Option Nat) (f_o_text_parts : Nat → Option Nat) (f_o_text_followers : Nat → Int32) (f_o_text_letters : Nat → Int32) (a0_book_modes_0 : Nat) (a0_book_modes_1 : Nat) (a0_book_modes_2 : Nat) (a0_book_modes_0_letters : Nat) (a0_book_modes_0_followers : Nat) (a0_book_modes_0_rules : Nat) (a0_book_modes_1_letters : Nat) (a0_book_modes_1_followers : Nat) (a0_book_modes_1_rules : Nat) (a0_book_modes_2_letters : Nat) (a0_book_modes_2_followers : Nat) (a0_book_modes_2_rules : Nat) (a0_book_builder_placesOf : Nat) (a0_book_builder_found : Nat) (v_o_book_builder_foundCount : Int32) (a0_book_builder_behind : Nat) (a0_book_builder_groups : Nat) (a0_book_builder_finerGroups : Nat) (a0_book_builder_newest : Nat) (a0_book_builder_older : Nat) (a0_book_builder_sample : Nat) (f_o_book_builder_placesOf : Nat → Int32) (f_o_book_builder_groups : Nat → Int32) (f_o_book_builder_found : Nat → Int32) (f_o_book_builder_behind : Nat → Int32) (f_o_book_builder_newest : Nat → Int32) (f_o_book_builder_sample : Nat → Int32) (f_o_book_builder_older : Nat → Int32) (f_o_book_builder_finerGroups : Nat → Int32) (mv_code : Int32) (mv_typed : Int32) (mv_at : Int32) (mv_read : Int32) (mv_depth : Int32) (mv_wrong : Int32) (mv_there : Int32) (mv_ended : Int32) (mv_mode : Int32) (mv_kept : Int32) (mv_came : Int32) (mv_pending : Int32) (mv_looked : Int32) (mv_tokens : Int32) (mv_oldest : Int32) (mf_tape : Nat → Int32) (mf_choiceFirst : Nat → Int32) (mf_choiceLast : Nat → Int32) (mf_choiceEmpty : Nat → Int32) (mf_rowFirst : Nat → Int32) (mf_rowLast : Nat → Int32) (mf_rowEmpty : Nat → Int32) (mf_hasPart : Nat → Int32) (mf_partFirst : Nat → Int32) (mf_readBehind : Nat → Int32) (mf_partLast : Nat → Int32) (mf_partEmpty : Nat → Int32) (mf_readLetters : Nat → Int32) (mf_many : Nat → Int32) (mf_letters : Nat → Int32) (mf_ruleAt : Nat → Int32) (mf_behind : Nat → Int32) (mf_modeOf : Nat → Int32) (mf_actionOf : Nat → Int32) (mf_firstOf : Nat → Int32) (mf_lastOf : Nat → Int32) (mf_made : Nat → Int32) (mf_nodes : Nat → Int32) (mf_set : Nat → Int32) (mf_step : Nat → Int32) (mf_group : Nat → Int32) (mf_sample : Nat → Int32) (mf_fresh : Nat → Int32) (mf_groups : Nat → Int32) (mf_now : Nat → Int32) (mf_then : Nat → Int32) (mf_seen : Nat → Int32) (mf_front : Nat → Int32) (mf_ahead : Nat → Int32) (mf_letter : Nat → Int32) (mf_tokenRule : Nat → Int32) (mf_tokenAt : Nat → Int32) (mf_tokenLong : Nat → Int32) (mf_tokenMode : Nat → Int32) (mf_keep : Nat → Int32), LWd G A (LX K a0 D Rn am a0_tape v_o_tapeLength a0_text a0_book a0_comparison a0_stream f_o_tape a0_book_modes a0_book_machines a0_book_builder a0_book_modeOfRule a0_book_actionOfRule f_o_book_modeOfRule a0_stream_tokens v_o_stream_isThere v_o_stream_isEnded v_o_stream_mode a0_stream_kept v_o_stream_keptCount v_o_stream_came a0_stream_pending v_o_stream_pendingCount v_o_stream_looked v_o_stream_state v_o_stream_matched v_o_stream_matchedRule a0_stream_tokens_facts v_o_stream_tokens_oldest v_o_stream_tokens_size f_o_stream_pending f_o_stream_tokens_facts f_o_stream_kept f_o_book_actionOfRule a0_comparison_leader a0_comparison_left a0_comparison_right a0_comparison_before a0_comparison_letters v_o_comparison_pairs v_o_comparison_length v_o_comparison_one v_o_comparison_other f_o_comparison_leader f_o_comparison_left f_o_comparison_right f_o_comparison_before f_o_comparison_letters w_o_text_noWord w_o_text_emptyWord a0_text_set a0_text_choices a0_text_sequences a0_text_parts v_o_text_depth a0_text_letters a0_text_followers v_o_text_places v_o_text_set_isOpen v_o_text_set_isFresh v_o_text_set_isOfOthers v_o_text_set_isBehindDash v_o_text_set_named v_o_text_set_from f_o_text_choices f_o_text_sequences f_o_text_parts f_o_text_followers f_o_text_letters a0_book_modes_0 a0_book_modes_1 a0_book_modes_2 a0_book_modes_0_letters a0_book_modes_0_followers a0_book_modes_0_rules a0_book_modes_1_letters a0_book_modes_1_followers a0_book_modes_1_rules a0_book_modes_2_letters a0_book_modes_2_followers a0_book_modes_2_rules a0_book_builder_placesOf a0_book_builder_found v_o_book_builder_foundCount a0_book_builder_behind a0_book_builder_groups a0_book_builder_finerGroups a0_book_builder_newest a0_book_builder_older a0_book_builder_sample f_o_book_builder_placesOf f_o_book_builder_groups f_o_book_builder_found f_o_book_builder_behind f_o_book_builder_newest f_o_book_builder_sample f_o_book_builder_older f_o_book_builder_finerGroups ++ (LM K b0 ad Rn mv_code mv_typed mv_at mv_read mv_depth mv_wrong mv_there mv_ended mv_mode mv_kept mv_came mv_pending mv_looked mv_tokens mv_oldest mf_tape mf_choiceFirst mf_choiceLast mf_choiceEmpty mf_rowFirst mf_rowLast mf_rowEmpty mf_hasPart mf_partFirst mf_readBehind mf_partLast mf_partEmpty mf_readLetters mf_many mf_letters mf_ruleAt mf_behind mf_modeOf mf_actionOf mf_firstOf mf_lastOf mf_made mf_nodes mf_set mf_step mf_group mf_sample mf_fresh mf_groups mf_now mf_then mf_seen mf_front mf_ahead mf_letter mf_tokenRule mf_tokenAt mf_tokenLong mf_tokenMode mf_keep ++ [(ao, .inl (K 5, 1, .inr (.inl fo)))])) (va_pl LP (pcs PF)) (MF K am aw aa n fa fw gap kn) H → WT tp t v_o_tapeLength mv_typed f_o_tape mf_tape → WB D Gm n sN fa fw gap kn Rn ac f_o_book_modeOfRule f_o_book_actionOfRule mf_many mf_letters mf_behind mf_modeOf mf_actionOf mf_firstOf mf_lastOf → RK D Gm n sN mf_made mf_nodes mf_set mf_step mf_group mf_sample mf_groups → WC D Gm sN v_o_comparison_pairs v_o_comparison_length v_o_comparison_one v_o_comparison_other f_o_comparison_before f_o_comparison_letters → WS (fun M => (D M).au) Gm S1 oc1 or1 v_o_stream_isThere v_o_stream_isEnded v_o_stream_mode v_o_stream_keptCount v_o_stream_came v_o_stream_pendingCount v_o_stream_looked v_o_stream_state v_o_stream_matched v_o_stream_matchedRule v_o_stream_tokens_oldest v_o_stream_tokens_size f_o_stream_pending f_o_stream_tokens_facts f_o_stream_kept mv_there mv_ended mv_mode mv_kept mv_came mv_pending mv_looked mv_tokens mv_oldest mf_letter mf_tokenRule mf_tokenAt mf_tokenLong mf_tokenMode mf_keep → Pool LP PF w_o_text_noWord w_o_text_emptyWord → (∀ M, M < 3 → A (am M)) → (∀ i j, i < 3 → j < 3 → am i = am j → aa i = aa j ∧ aw i = aw j ∧ D i = D j ∧ Gm i = Gm j ∧ n i = n j ∧ sN i = sN j) → (∀ i j, i < 3 → j < 3 → am i ≠ aw j ∧ am i ≠ aa j) → C) → C
theorem d_law_0 : decode code 0 = .ok (.new 8, 3) := by decide +kernel
theorem d_law_3 : decode code 3 = .ok (.dup, 1) := by decide +kernel
theorem d_law_4 : decode code 4 = .ok (.invokespecial 20, 3) := by decide +kernel
theorem d_law_7 : decode code 7 = .ok (.astore_n 1, 1) := by decide +kernel
theorem d_law_8 : decode code 8 = .ok (.new 21, 3) := by decide +kernel
theorem d_law_11 : decode code 11 = .ok (.dup, 1) := by decide +kernel
theorem d_law_12 : decode code 12 = .ok (.invokespecial 23, 3) := by decide +kernel
theorem d_law_15 : decode code 15 = .ok (.astore_n 2, 1) := by decide +kernel
theorem d_law_16 : decode code 16 = .ok (.iconst 1, 1) := by decide +kernel
theorem d_law_17 : decode code 17 = .ok (.newarray .long, 2) := by decide +kernel
theorem d_law_19 : decode code 19 = .ok (.astore_n 3, 1) := by decide +kernel
theorem d_law_20 : decode code 20 = .ok (.iconst 0, 1) := by decide +kernel
theorem d_law_21 : decode code 21 = .ok (.istore 4, 2) := by decide +kernel
theorem d_law_23 : decode code 23 = .ok (.iload 4, 2) := by decide +kernel
theorem d_law_25 : decode code 25 = .ok (.aload_n 0, 1) := by decide +kernel
theorem d_law_26 : decode code 26 = .ok (.arraylength, 1) := by decide +kernel
theorem d_law_27 : decode code 27 = .ok (.iconst 4, 1) := by decide +kernel
theorem d_law_28 : decode code 28 = .ok (.isub, 1) := by decide +kernel
theorem d_law_29 : decode code 29 = .ok (.if_icmp .gt 639, 3) := by decide +kernel
theorem d_law_32 : decode code 32 = .ok (.aload_n 0, 1) := by decide +kernel
theorem d_law_33 : decode code 33 = .ok (.iload 4, 2) := by decide +kernel
theorem d_law_35 : decode code 35 = .ok (.iaload, 1) := by decide +kernel
theorem d_law_36 : decode code 36 = .ok (.bipush 15, 2) := by decide +kernel
theorem d_law_38 : decode code 38 = .ok (.iand, 1) := by decide +kernel
theorem d_law_39 : decode code 39 = .ok (.tableswitch 623 0 15 #[77, 146, 183, 208, 257, 294, 319, 344, 381, 430, 455, 492, 505, 518, 574, 598], 77) := by decide +kernel
theorem d_law_116 : decode code 116 = .ok (.aload_n 1, 1) := by decide +kernel
theorem d_law_117 : decode code 117 = .ok (.aload_n 0, 1) := by decide +kernel
theorem d_law_118 : decode code 118 = .ok (.iload 4, 2) := by decide +kernel
theorem d_law_120 : decode code 120 = .ok (.iconst 1, 1) := by decide +kernel
theorem d_law_121 : decode code 121 = .ok (.iadd, 1) := by decide +kernel
theorem d_law_122 : decode code 122 = .ok (.iaload, 1) := by decide +kernel
theorem d_law_123 : decode code 123 = .ok (.i2l, 1) := by decide +kernel
theorem d_law_124 : decode code 124 = .ok (.bipush 32, 2) := by decide +kernel
theorem d_law_126 : decode code 126 = .ok (.lshl, 1) := by decide +kernel
theorem d_law_127 : decode code 127 = .ok (.aload_n 0, 1) := by decide +kernel
theorem d_law_128 : decode code 128 = .ok (.iload 4, 2) := by decide +kernel
theorem d_law_130 : decode code 130 = .ok (.iconst 2, 1) := by decide +kernel
theorem d_law_131 : decode code 131 = .ok (.iadd, 1) := by decide +kernel
theorem d_law_132 : decode code 132 = .ok (.iaload, 1) := by decide +kernel
theorem d_law_133 : decode code 133 = .ok (.i2l, 1) := by decide +kernel
theorem d_law_134 : decode code 134 = .ok (.ldc2_w 24, 3) := by decide +kernel
theorem d_law_137 : decode code 137 = .ok (.land, 1) := by decide +kernel
theorem d_law_138 : decode code 138 = .ok (.lor, 1) := by decide +kernel
theorem d_law_139 : decode code 139 = .ok (.aload_n 0, 1) := by decide +kernel
theorem d_law_140 : decode code 140 = .ok (.iload 4, 2) := by decide +kernel
theorem d_law_142 : decode code 142 = .ok (.iconst 3, 1) := by decide +kernel
theorem d_law_143 : decode code 143 = .ok (.iadd, 1) := by decide +kernel
theorem d_law_144 : decode code 144 = .ok (.iaload, 1) := by decide +kernel
theorem d_law_145 : decode code 145 = .ok (.invokevirtual 26, 3) := by decide +kernel
theorem d_law_148 : decode code 148 = .ok (.aload_n 2, 1) := by decide +kernel
theorem d_law_149 : decode code 149 = .ok (.aload_n 0, 1) := by decide +kernel
theorem d_law_150 : decode code 150 = .ok (.iload 4, 2) := by decide +kernel
theorem d_law_152 : decode code 152 = .ok (.iconst 1, 1) := by decide +kernel
theorem d_law_153 : decode code 153 = .ok (.iadd, 1) := by decide +kernel
theorem d_law_154 : decode code 154 = .ok (.iaload, 1) := by decide +kernel
theorem d_law_155 : decode code 155 = .ok (.i2l, 1) := by decide +kernel
theorem d_law_156 : decode code 156 = .ok (.bipush 32, 2) := by decide +kernel
theorem d_law_158 : decode code 158 = .ok (.lshl, 1) := by decide +kernel
theorem d_law_159 : decode code 159 = .ok (.aload_n 0, 1) := by decide +kernel
theorem d_law_160 : decode code 160 = .ok (.iload 4, 2) := by decide +kernel
theorem d_law_162 : decode code 162 = .ok (.iconst 2, 1) := by decide +kernel
theorem d_law_163 : decode code 163 = .ok (.iadd, 1) := by decide +kernel
theorem d_law_164 : decode code 164 = .ok (.iaload, 1) := by decide +kernel
theorem d_law_165 : decode code 165 = .ok (.i2l, 1) := by decide +kernel
theorem d_law_166 : decode code 166 = .ok (.ldc2_w 24, 3) := by decide +kernel
theorem d_law_169 : decode code 169 = .ok (.land, 1) := by decide +kernel
theorem d_law_170 : decode code 170 = .ok (.lor, 1) := by decide +kernel
theorem d_law_171 : decode code 171 = .ok (.aload_n 0, 1) := by decide +kernel
theorem d_law_172 : decode code 172 = .ok (.iload 4, 2) := by decide +kernel
theorem d_law_174 : decode code 174 = .ok (.iconst 3, 1) := by decide +kernel
theorem d_law_175 : decode code 175 = .ok (.iadd, 1) := by decide +kernel
theorem d_law_176 : decode code 176 = .ok (.iaload, 1) := by decide +kernel
theorem d_law_177 : decode code 177 = .ok (.invokevirtual 30, 3) := by decide +kernel
theorem d_law_180 : decode code 180 = .ok (.if_icmp .eq 482, 3) := by decide +kernel
theorem d_law_183 : decode code 183 = .ok (.iconst 0, 1) := by decide +kernel
theorem d_law_184 : decode code 184 = .ok (.ireturn, 1) := by decide +kernel
theorem d_law_185 : decode code 185 = .ok (.aload_n 1, 1) := by decide +kernel
theorem d_law_186 : decode code 186 = .ok (.aload_n 0, 1) := by decide +kernel
theorem d_law_187 : decode code 187 = .ok (.iload 4, 2) := by decide +kernel
theorem d_law_189 : decode code 189 = .ok (.iconst 1, 1) := by decide +kernel
theorem d_law_190 : decode code 190 = .ok (.iadd, 1) := by decide +kernel
theorem d_law_191 : decode code 191 = .ok (.iaload, 1) := by decide +kernel
theorem d_law_192 : decode code 192 = .ok (.aload_n 0, 1) := by decide +kernel
theorem d_law_193 : decode code 193 = .ok (.iload 4, 2) := by decide +kernel
theorem d_law_195 : decode code 195 = .ok (.iconst 2, 1) := by decide +kernel
theorem d_law_196 : decode code 196 = .ok (.iadd, 1) := by decide +kernel
theorem d_law_197 : decode code 197 = .ok (.iaload, 1) := by decide +kernel
theorem d_law_198 : decode code 198 = .ok (.invokevirtual 31, 3) := by decide +kernel
theorem d_law_201 : decode code 201 = .ok (.aload_n 2, 1) := by decide +kernel
theorem d_law_202 : decode code 202 = .ok (.aload_n 0, 1) := by decide +kernel
theorem d_law_203 : decode code 203 = .ok (.iload 4, 2) := by decide +kernel
theorem d_law_205 : decode code 205 = .ok (.iconst 1, 1) := by decide +kernel
theorem d_law_206 : decode code 206 = .ok (.iadd, 1) := by decide +kernel
theorem d_law_207 : decode code 207 = .ok (.iaload, 1) := by decide +kernel
theorem d_law_208 : decode code 208 = .ok (.aload_n 0, 1) := by decide +kernel
theorem d_law_209 : decode code 209 = .ok (.iload 4, 2) := by decide +kernel
theorem d_law_211 : decode code 211 = .ok (.iconst 2, 1) := by decide +kernel
theorem d_law_212 : decode code 212 = .ok (.iadd, 1) := by decide +kernel
theorem d_law_213 : decode code 213 = .ok (.iaload, 1) := by decide +kernel
theorem d_law_214 : decode code 214 = .ok (.invokevirtual 35, 3) := by decide +kernel
theorem d_law_217 : decode code 217 = .ok (.if_icmp .eq 445, 3) := by decide +kernel
theorem d_law_220 : decode code 220 = .ok (.iconst 0, 1) := by decide +kernel
theorem d_law_221 : decode code 221 = .ok (.ireturn, 1) := by decide +kernel
theorem d_law_222 : decode code 222 = .ok (.aload_n 1, 1) := by decide +kernel
theorem d_law_223 : decode code 223 = .ok (.aload_n 0, 1) := by decide +kernel
theorem d_law_224 : decode code 224 = .ok (.iload 4, 2) := by decide +kernel
theorem d_law_226 : decode code 226 = .ok (.iconst 1, 1) := by decide +kernel
theorem d_law_227 : decode code 227 = .ok (.iadd, 1) := by decide +kernel
theorem d_law_228 : decode code 228 = .ok (.iaload, 1) := by decide +kernel
theorem d_law_229 : decode code 229 = .ok (.invokevirtual 36, 3) := by decide +kernel
theorem d_law_232 : decode code 232 = .ok (.aload_n 2, 1) := by decide +kernel
theorem d_law_233 : decode code 233 = .ok (.aload_n 0, 1) := by decide +kernel
theorem d_law_234 : decode code 234 = .ok (.iload 4, 2) := by decide +kernel
theorem d_law_236 : decode code 236 = .ok (.iconst 1, 1) := by decide +kernel
theorem d_law_237 : decode code 237 = .ok (.iadd, 1) := by decide +kernel
theorem d_law_238 : decode code 238 = .ok (.iaload, 1) := by decide +kernel
theorem d_law_239 : decode code 239 = .ok (.invokevirtual 39, 3) := by decide +kernel
theorem d_law_242 : decode code 242 = .ok (.if_icmp .eq 420, 3) := by decide +kernel
theorem d_law_245 : decode code 245 = .ok (.iconst 0, 1) := by decide +kernel
theorem d_law_246 : decode code 246 = .ok (.ireturn, 1) := by decide +kernel
theorem d_law_247 : decode code 247 = .ok (.aload_n 1, 1) := by decide +kernel
theorem d_law_248 : decode code 248 = .ok (.aload_n 0, 1) := by decide +kernel
theorem d_law_249 : decode code 249 = .ok (.iload 4, 2) := by decide +kernel
theorem d_law_251 : decode code 251 = .ok (.iconst 1, 1) := by decide +kernel
theorem d_law_252 : decode code 252 = .ok (.iadd, 1) := by decide +kernel
theorem d_law_253 : decode code 253 = .ok (.iaload, 1) := by decide +kernel
theorem d_law_254 : decode code 254 = .ok (.aload_n 0, 1) := by decide +kernel
theorem d_law_255 : decode code 255 = .ok (.iload 4, 2) := by decide +kernel
theorem d_law_257 : decode code 257 = .ok (.iconst 2, 1) := by decide +kernel
theorem d_law_258 : decode code 258 = .ok (.iadd, 1) := by decide +kernel
theorem d_law_259 : decode code 259 = .ok (.iaload, 1) := by decide +kernel
theorem d_law_260 : decode code 260 = .ok (.aload_n 0, 1) := by decide +kernel
theorem d_law_261 : decode code 261 = .ok (.iload 4, 2) := by decide +kernel
theorem d_law_263 : decode code 263 = .ok (.iconst 3, 1) := by decide +kernel
theorem d_law_264 : decode code 264 = .ok (.iadd, 1) := by decide +kernel
theorem d_law_265 : decode code 265 = .ok (.iaload, 1) := by decide +kernel
theorem d_law_266 : decode code 266 = .ok (.invokevirtual 40, 3) := by decide +kernel
theorem d_law_269 : decode code 269 = .ok (.aload_n 2, 1) := by decide +kernel
theorem d_law_270 : decode code 270 = .ok (.aload_n 0, 1) := by decide +kernel
theorem d_law_271 : decode code 271 = .ok (.iload 4, 2) := by decide +kernel
theorem d_law_273 : decode code 273 = .ok (.iconst 1, 1) := by decide +kernel
theorem d_law_274 : decode code 274 = .ok (.iadd, 1) := by decide +kernel
theorem d_law_275 : decode code 275 = .ok (.iaload, 1) := by decide +kernel
theorem d_law_276 : decode code 276 = .ok (.aload_n 0, 1) := by decide +kernel
theorem d_law_277 : decode code 277 = .ok (.iload 4, 2) := by decide +kernel
theorem d_law_279 : decode code 279 = .ok (.iconst 2, 1) := by decide +kernel
theorem d_law_280 : decode code 280 = .ok (.iadd, 1) := by decide +kernel
theorem d_law_281 : decode code 281 = .ok (.iaload, 1) := by decide +kernel
theorem d_law_282 : decode code 282 = .ok (.aload_n 0, 1) := by decide +kernel
theorem d_law_283 : decode code 283 = .ok (.iload 4, 2) := by decide +kernel
theorem d_law_285 : decode code 285 = .ok (.iconst 3, 1) := by decide +kernel
theorem d_law_286 : decode code 286 = .ok (.iadd, 1) := by decide +kernel
theorem d_law_287 : decode code 287 = .ok (.iaload, 1) := by decide +kernel
theorem d_law_288 : decode code 288 = .ok (.invokevirtual 44, 3) := by decide +kernel
theorem d_law_291 : decode code 291 = .ok (.if_icmp .eq 371, 3) := by decide +kernel
theorem d_law_294 : decode code 294 = .ok (.iconst 0, 1) := by decide +kernel
theorem d_law_295 : decode code 295 = .ok (.ireturn, 1) := by decide +kernel
theorem d_law_296 : decode code 296 = .ok (.aload_n 1, 1) := by decide +kernel
theorem d_law_297 : decode code 297 = .ok (.aload_n 0, 1) := by decide +kernel
theorem d_law_298 : decode code 298 = .ok (.iload 4, 2) := by decide +kernel
theorem d_law_300 : decode code 300 = .ok (.iconst 1, 1) := by decide +kernel
theorem d_law_301 : decode code 301 = .ok (.iadd, 1) := by decide +kernel
theorem d_law_302 : decode code 302 = .ok (.iaload, 1) := by decide +kernel
theorem d_law_303 : decode code 303 = .ok (.aload_n 0, 1) := by decide +kernel
theorem d_law_304 : decode code 304 = .ok (.iload 4, 2) := by decide +kernel
theorem d_law_306 : decode code 306 = .ok (.iconst 2, 1) := by decide +kernel
theorem d_law_307 : decode code 307 = .ok (.iadd, 1) := by decide +kernel
theorem d_law_308 : decode code 308 = .ok (.iaload, 1) := by decide +kernel
theorem d_law_309 : decode code 309 = .ok (.invokevirtual 45, 3) := by decide +kernel
theorem d_law_312 : decode code 312 = .ok (.aload_n 2, 1) := by decide +kernel
theorem d_law_313 : decode code 313 = .ok (.aload_n 0, 1) := by decide +kernel
theorem d_law_314 : decode code 314 = .ok (.iload 4, 2) := by decide +kernel
theorem d_law_316 : decode code 316 = .ok (.iconst 1, 1) := by decide +kernel
theorem d_law_317 : decode code 317 = .ok (.iadd, 1) := by decide +kernel
theorem d_law_318 : decode code 318 = .ok (.iaload, 1) := by decide +kernel
theorem d_law_319 : decode code 319 = .ok (.aload_n 0, 1) := by decide +kernel
theorem d_law_320 : decode code 320 = .ok (.iload 4, 2) := by decide +kernel
theorem d_law_322 : decode code 322 = .ok (.iconst 2, 1) := by decide +kernel
theorem d_law_323 : decode code 323 = .ok (.iadd, 1) := by decide +kernel
theorem d_law_324 : decode code 324 = .ok (.iaload, 1) := by decide +kernel
theorem d_law_325 : decode code 325 = .ok (.invokevirtual 48, 3) := by decide +kernel
theorem d_law_328 : decode code 328 = .ok (.if_icmp .eq 334, 3) := by decide +kernel
theorem d_law_331 : decode code 331 = .ok (.iconst 0, 1) := by decide +kernel
theorem d_law_332 : decode code 332 = .ok (.ireturn, 1) := by decide +kernel
theorem d_law_333 : decode code 333 = .ok (.aload_n 1, 1) := by decide +kernel
theorem d_law_334 : decode code 334 = .ok (.aload_n 0, 1) := by decide +kernel
theorem d_law_335 : decode code 335 = .ok (.iload 4, 2) := by decide +kernel
theorem d_law_337 : decode code 337 = .ok (.iconst 1, 1) := by decide +kernel
theorem d_law_338 : decode code 338 = .ok (.iadd, 1) := by decide +kernel
theorem d_law_339 : decode code 339 = .ok (.iaload, 1) := by decide +kernel
theorem d_law_340 : decode code 340 = .ok (.invokevirtual 49, 3) := by decide +kernel
theorem d_law_343 : decode code 343 = .ok (.aload_n 2, 1) := by decide +kernel
theorem d_law_344 : decode code 344 = .ok (.aload_n 0, 1) := by decide +kernel
theorem d_law_345 : decode code 345 = .ok (.iload 4, 2) := by decide +kernel
theorem d_law_347 : decode code 347 = .ok (.iconst 1, 1) := by decide +kernel
theorem d_law_348 : decode code 348 = .ok (.iadd, 1) := by decide +kernel
theorem d_law_349 : decode code 349 = .ok (.iaload, 1) := by decide +kernel
theorem d_law_350 : decode code 350 = .ok (.invokevirtual 52, 3) := by decide +kernel
theorem d_law_353 : decode code 353 = .ok (.if_icmp .eq 309, 3) := by decide +kernel
theorem d_law_356 : decode code 356 = .ok (.iconst 0, 1) := by decide +kernel
theorem d_law_357 : decode code 357 = .ok (.ireturn, 1) := by decide +kernel
theorem d_law_358 : decode code 358 = .ok (.aload_n 1, 1) := by decide +kernel
theorem d_law_359 : decode code 359 = .ok (.aload_n 0, 1) := by decide +kernel
theorem d_law_360 : decode code 360 = .ok (.iload 4, 2) := by decide +kernel
theorem d_law_362 : decode code 362 = .ok (.iconst 1, 1) := by decide +kernel
theorem d_law_363 : decode code 363 = .ok (.iadd, 1) := by decide +kernel
theorem d_law_364 : decode code 364 = .ok (.iaload, 1) := by decide +kernel
theorem d_law_365 : decode code 365 = .ok (.invokevirtual 53, 3) := by decide +kernel
theorem d_law_368 : decode code 368 = .ok (.aload_n 2, 1) := by decide +kernel
theorem d_law_369 : decode code 369 = .ok (.aload_n 0, 1) := by decide +kernel
theorem d_law_370 : decode code 370 = .ok (.iload 4, 2) := by decide +kernel
theorem d_law_372 : decode code 372 = .ok (.iconst 1, 1) := by decide +kernel
theorem d_law_373 : decode code 373 = .ok (.iadd, 1) := by decide +kernel
theorem d_law_374 : decode code 374 = .ok (.iaload, 1) := by decide +kernel
theorem d_law_375 : decode code 375 = .ok (.invokevirtual 57, 3) := by decide +kernel
theorem d_law_378 : decode code 378 = .ok (.if_icmp .eq 284, 3) := by decide +kernel
theorem d_law_381 : decode code 381 = .ok (.iconst 0, 1) := by decide +kernel
theorem d_law_382 : decode code 382 = .ok (.ireturn, 1) := by decide +kernel
theorem d_law_383 : decode code 383 = .ok (.aload_n 1, 1) := by decide +kernel
theorem d_law_384 : decode code 384 = .ok (.aload_n 0, 1) := by decide +kernel
theorem d_law_385 : decode code 385 = .ok (.iload 4, 2) := by decide +kernel
theorem d_law_387 : decode code 387 = .ok (.iconst 1, 1) := by decide +kernel
theorem d_law_388 : decode code 388 = .ok (.iadd, 1) := by decide +kernel
theorem d_law_389 : decode code 389 = .ok (.iaload, 1) := by decide +kernel
theorem d_law_390 : decode code 390 = .ok (.aload_n 0, 1) := by decide +kernel
theorem d_law_391 : decode code 391 = .ok (.iload 4, 2) := by decide +kernel
theorem d_law_393 : decode code 393 = .ok (.iconst 2, 1) := by decide +kernel
theorem d_law_394 : decode code 394 = .ok (.iadd, 1) := by decide +kernel
theorem d_law_395 : decode code 395 = .ok (.iaload, 1) := by decide +kernel
theorem d_law_396 : decode code 396 = .ok (.invokevirtual 58, 3) := by decide +kernel
theorem d_law_399 : decode code 399 = .ok (.aload_n 2, 1) := by decide +kernel
theorem d_law_400 : decode code 400 = .ok (.aload_n 0, 1) := by decide +kernel
theorem d_law_401 : decode code 401 = .ok (.iload 4, 2) := by decide +kernel
theorem d_law_403 : decode code 403 = .ok (.iconst 1, 1) := by decide +kernel
theorem d_law_404 : decode code 404 = .ok (.iadd, 1) := by decide +kernel
theorem d_law_405 : decode code 405 = .ok (.iaload, 1) := by decide +kernel
theorem d_law_406 : decode code 406 = .ok (.aload_n 0, 1) := by decide +kernel
theorem d_law_407 : decode code 407 = .ok (.iload 4, 2) := by decide +kernel
theorem d_law_409 : decode code 409 = .ok (.iconst 2, 1) := by decide +kernel
theorem d_law_410 : decode code 410 = .ok (.iadd, 1) := by decide +kernel
theorem d_law_411 : decode code 411 = .ok (.iaload, 1) := by decide +kernel
theorem d_law_412 : decode code 412 = .ok (.invokevirtual 61, 3) := by decide +kernel
theorem d_law_415 : decode code 415 = .ok (.if_icmp .eq 247, 3) := by decide +kernel
theorem d_law_418 : decode code 418 = .ok (.iconst 0, 1) := by decide +kernel
theorem d_law_419 : decode code 419 = .ok (.ireturn, 1) := by decide +kernel
theorem d_law_420 : decode code 420 = .ok (.aload_n 1, 1) := by decide +kernel
theorem d_law_421 : decode code 421 = .ok (.aload_n 0, 1) := by decide +kernel
theorem d_law_422 : decode code 422 = .ok (.iload 4, 2) := by decide +kernel
theorem d_law_424 : decode code 424 = .ok (.iconst 1, 1) := by decide +kernel
theorem d_law_425 : decode code 425 = .ok (.iadd, 1) := by decide +kernel
theorem d_law_426 : decode code 426 = .ok (.iaload, 1) := by decide +kernel
theorem d_law_427 : decode code 427 = .ok (.aload_n 0, 1) := by decide +kernel
theorem d_law_428 : decode code 428 = .ok (.iload 4, 2) := by decide +kernel
theorem d_law_430 : decode code 430 = .ok (.iconst 2, 1) := by decide +kernel
theorem d_law_431 : decode code 431 = .ok (.iadd, 1) := by decide +kernel
theorem d_law_432 : decode code 432 = .ok (.iaload, 1) := by decide +kernel
theorem d_law_433 : decode code 433 = .ok (.aload_n 0, 1) := by decide +kernel
theorem d_law_434 : decode code 434 = .ok (.iload 4, 2) := by decide +kernel
theorem d_law_436 : decode code 436 = .ok (.iconst 3, 1) := by decide +kernel
theorem d_law_437 : decode code 437 = .ok (.iadd, 1) := by decide +kernel
theorem d_law_438 : decode code 438 = .ok (.iaload, 1) := by decide +kernel
theorem d_law_439 : decode code 439 = .ok (.invokevirtual 62, 3) := by decide +kernel
theorem d_law_442 : decode code 442 = .ok (.aload_n 2, 1) := by decide +kernel
theorem d_law_443 : decode code 443 = .ok (.aload_n 0, 1) := by decide +kernel
theorem d_law_444 : decode code 444 = .ok (.iload 4, 2) := by decide +kernel
theorem d_law_446 : decode code 446 = .ok (.iconst 1, 1) := by decide +kernel
theorem d_law_447 : decode code 447 = .ok (.iadd, 1) := by decide +kernel
theorem d_law_448 : decode code 448 = .ok (.iaload, 1) := by decide +kernel
theorem d_law_449 : decode code 449 = .ok (.aload_n 0, 1) := by decide +kernel
theorem d_law_450 : decode code 450 = .ok (.iload 4, 2) := by decide +kernel
theorem d_law_452 : decode code 452 = .ok (.iconst 2, 1) := by decide +kernel
theorem d_law_453 : decode code 453 = .ok (.iadd, 1) := by decide +kernel
theorem d_law_454 : decode code 454 = .ok (.iaload, 1) := by decide +kernel
theorem d_law_455 : decode code 455 = .ok (.aload_n 0, 1) := by decide +kernel
theorem d_law_456 : decode code 456 = .ok (.iload 4, 2) := by decide +kernel
theorem d_law_458 : decode code 458 = .ok (.iconst 3, 1) := by decide +kernel
theorem d_law_459 : decode code 459 = .ok (.iadd, 1) := by decide +kernel
theorem d_law_460 : decode code 460 = .ok (.iaload, 1) := by decide +kernel
theorem d_law_461 : decode code 461 = .ok (.invokevirtual 65, 3) := by decide +kernel
theorem d_law_464 : decode code 464 = .ok (.if_icmp .eq 198, 3) := by decide +kernel
theorem d_law_467 : decode code 467 = .ok (.iconst 0, 1) := by decide +kernel
theorem d_law_468 : decode code 468 = .ok (.ireturn, 1) := by decide +kernel
theorem d_law_469 : decode code 469 = .ok (.aload_n 1, 1) := by decide +kernel
theorem d_law_470 : decode code 470 = .ok (.aload_n 0, 1) := by decide +kernel
theorem d_law_471 : decode code 471 = .ok (.iload 4, 2) := by decide +kernel
theorem d_law_473 : decode code 473 = .ok (.iconst 1, 1) := by decide +kernel
theorem d_law_474 : decode code 474 = .ok (.iadd, 1) := by decide +kernel
theorem d_law_475 : decode code 475 = .ok (.iaload, 1) := by decide +kernel
theorem d_law_476 : decode code 476 = .ok (.invokevirtual 66, 3) := by decide +kernel
theorem d_law_479 : decode code 479 = .ok (.aload_n 2, 1) := by decide +kernel
theorem d_law_480 : decode code 480 = .ok (.aload_n 0, 1) := by decide +kernel
theorem d_law_481 : decode code 481 = .ok (.iload 4, 2) := by decide +kernel
theorem d_law_483 : decode code 483 = .ok (.iconst 1, 1) := by decide +kernel
theorem d_law_484 : decode code 484 = .ok (.iadd, 1) := by decide +kernel
theorem d_law_485 : decode code 485 = .ok (.iaload, 1) := by decide +kernel
theorem d_law_486 : decode code 486 = .ok (.invokevirtual 69, 3) := by decide +kernel
theorem d_law_489 : decode code 489 = .ok (.if_icmp .eq 173, 3) := by decide +kernel
theorem d_law_492 : decode code 492 = .ok (.iconst 0, 1) := by decide +kernel
theorem d_law_493 : decode code 493 = .ok (.ireturn, 1) := by decide +kernel
theorem d_law_494 : decode code 494 = .ok (.aload_n 1, 1) := by decide +kernel
theorem d_law_495 : decode code 495 = .ok (.aload_n 0, 1) := by decide +kernel
theorem d_law_496 : decode code 496 = .ok (.iload 4, 2) := by decide +kernel
theorem d_law_498 : decode code 498 = .ok (.iconst 1, 1) := by decide +kernel
theorem d_law_499 : decode code 499 = .ok (.iadd, 1) := by decide +kernel
theorem d_law_500 : decode code 500 = .ok (.iaload, 1) := by decide +kernel
theorem d_law_501 : decode code 501 = .ok (.aload_n 0, 1) := by decide +kernel
theorem d_law_502 : decode code 502 = .ok (.iload 4, 2) := by decide +kernel
theorem d_law_504 : decode code 504 = .ok (.iconst 2, 1) := by decide +kernel
theorem d_law_505 : decode code 505 = .ok (.iadd, 1) := by decide +kernel
theorem d_law_506 : decode code 506 = .ok (.iaload, 1) := by decide +kernel
theorem d_law_507 : decode code 507 = .ok (.invokevirtual 70, 3) := by decide +kernel
theorem d_law_510 : decode code 510 = .ok (.aload_n 2, 1) := by decide +kernel
theorem d_law_511 : decode code 511 = .ok (.aload_n 0, 1) := by decide +kernel
theorem d_law_512 : decode code 512 = .ok (.iload 4, 2) := by decide +kernel
theorem d_law_514 : decode code 514 = .ok (.iconst 1, 1) := by decide +kernel
theorem d_law_515 : decode code 515 = .ok (.iadd, 1) := by decide +kernel
theorem d_law_516 : decode code 516 = .ok (.iaload, 1) := by decide +kernel
theorem d_law_517 : decode code 517 = .ok (.aload_n 0, 1) := by decide +kernel
theorem d_law_518 : decode code 518 = .ok (.iload 4, 2) := by decide +kernel
theorem d_law_520 : decode code 520 = .ok (.iconst 2, 1) := by decide +kernel
theorem d_law_521 : decode code 521 = .ok (.iadd, 1) := by decide +kernel
theorem d_law_522 : decode code 522 = .ok (.iaload, 1) := by decide +kernel
theorem d_law_523 : decode code 523 = .ok (.invokevirtual 73, 3) := by decide +kernel
theorem d_law_526 : decode code 526 = .ok (.if_icmp .eq 136, 3) := by decide +kernel
theorem d_law_529 : decode code 529 = .ok (.iconst 0, 1) := by decide +kernel
theorem d_law_530 : decode code 530 = .ok (.ireturn, 1) := by decide +kernel
theorem d_law_531 : decode code 531 = .ok (.aload_n 1, 1) := by decide +kernel
theorem d_law_532 : decode code 532 = .ok (.invokevirtual 74, 3) := by decide +kernel
theorem d_law_535 : decode code 535 = .ok (.aload_n 2, 1) := by decide +kernel
theorem d_law_536 : decode code 536 = .ok (.invokevirtual 78, 3) := by decide +kernel
theorem d_law_539 : decode code 539 = .ok (.if_icmp .eq 123, 3) := by decide +kernel
theorem d_law_542 : decode code 542 = .ok (.iconst 0, 1) := by decide +kernel
theorem d_law_543 : decode code 543 = .ok (.ireturn, 1) := by decide +kernel
theorem d_law_544 : decode code 544 = .ok (.aload_n 1, 1) := by decide +kernel
theorem d_law_545 : decode code 545 = .ok (.invokevirtual 79, 3) := by decide +kernel
theorem d_law_548 : decode code 548 = .ok (.aload_n 2, 1) := by decide +kernel
theorem d_law_549 : decode code 549 = .ok (.invokevirtual 83, 3) := by decide +kernel
theorem d_law_552 : decode code 552 = .ok (.if_icmp .eq 110, 3) := by decide +kernel
theorem d_law_555 : decode code 555 = .ok (.iconst 0, 1) := by decide +kernel
theorem d_law_556 : decode code 556 = .ok (.ireturn, 1) := by decide +kernel
theorem d_law_557 : decode code 557 = .ok (.aload_n 1, 1) := by decide +kernel
theorem d_law_558 : decode code 558 = .ok (.aload_n 0, 1) := by decide +kernel
theorem d_law_559 : decode code 559 = .ok (.iload 4, 2) := by decide +kernel
theorem d_law_561 : decode code 561 = .ok (.iconst 1, 1) := by decide +kernel
theorem d_law_562 : decode code 562 = .ok (.iadd, 1) := by decide +kernel
theorem d_law_563 : decode code 563 = .ok (.iaload, 1) := by decide +kernel
theorem d_law_564 : decode code 564 = .ok (.aload_n 3, 1) := by decide +kernel
theorem d_law_565 : decode code 565 = .ok (.invokestatic 84, 3) := by decide +kernel
theorem d_law_568 : decode code 568 = .ok (.istore 5, 2) := by decide +kernel
theorem d_law_570 : decode code 570 = .ok (.aload_n 2, 1) := by decide +kernel
theorem d_law_571 : decode code 571 = .ok (.aload_n 0, 1) := by decide +kernel
theorem d_law_572 : decode code 572 = .ok (.iload 4, 2) := by decide +kernel
theorem d_law_574 : decode code 574 = .ok (.iconst 1, 1) := by decide +kernel
theorem d_law_575 : decode code 575 = .ok (.iadd, 1) := by decide +kernel
theorem d_law_576 : decode code 576 = .ok (.iaload, 1) := by decide +kernel
theorem d_law_577 : decode code 577 = .ok (.invokevirtual 89, 3) := by decide +kernel
theorem d_law_580 : decode code 580 = .ok (.istore 6, 2) := by decide +kernel
theorem d_law_582 : decode code 582 = .ok (.aload_n 2, 1) := by decide +kernel
theorem d_law_583 : decode code 583 = .ok (.invokevirtual 90, 3) := by decide +kernel
theorem d_law_586 : decode code 586 = .ok (.iload 5, 2) := by decide +kernel
theorem d_law_588 : decode code 588 = .ok (.if_icmp .eq 5, 3) := by decide +kernel
theorem d_law_591 : decode code 591 = .ok (.iconst 0, 1) := by decide +kernel
theorem d_law_592 : decode code 592 = .ok (.ireturn, 1) := by decide +kernel
theorem d_law_593 : decode code 593 = .ok (.iload 5, 2) := by decide +kernel
theorem d_law_595 : decode code 595 = .ok (.ifCond .ne 15, 3) := by decide +kernel
theorem d_law_598 : decode code 598 = .ok (.aload_n 3, 1) := by decide +kernel
theorem d_law_599 : decode code 599 = .ok (.iconst 0, 1) := by decide +kernel
theorem d_law_600 : decode code 600 = .ok (.laload, 1) := by decide +kernel
theorem d_law_601 : decode code 601 = .ok (.iload 6, 2) := by decide +kernel
theorem d_law_603 : decode code 603 = .ok (.i2l, 1) := by decide +kernel
theorem d_law_604 : decode code 604 = .ok (.lcmp, 1) := by decide +kernel
theorem d_law_605 : decode code 605 = .ok (.ifCond .eq 5, 3) := by decide +kernel
theorem d_law_608 : decode code 608 = .ok (.iconst 0, 1) := by decide +kernel
theorem d_law_609 : decode code 609 = .ok (.ireturn, 1) := by decide +kernel
theorem d_law_610 : decode code 610 = .ok (.goto 52, 3) := by decide +kernel
theorem d_law_613 : decode code 613 = .ok (.aload_n 1, 1) := by decide +kernel
theorem d_law_614 : decode code 614 = .ok (.invokestatic 93, 3) := by decide +kernel
theorem d_law_617 : decode code 617 = .ok (.istore 5, 2) := by decide +kernel
theorem d_law_619 : decode code 619 = .ok (.aload_n 2, 1) := by decide +kernel
theorem d_law_620 : decode code 620 = .ok (.invokevirtual 96, 3) := by decide +kernel
theorem d_law_623 : decode code 623 = .ok (.aload_n 2, 1) := by decide +kernel
theorem d_law_624 : decode code 624 = .ok (.invokevirtual 90, 3) := by decide +kernel
theorem d_law_627 : decode code 627 = .ok (.iload 5, 2) := by decide +kernel
theorem d_law_629 : decode code 629 = .ok (.if_icmp .eq 5, 3) := by decide +kernel
theorem d_law_632 : decode code 632 = .ok (.iconst 0, 1) := by decide +kernel
theorem d_law_633 : decode code 633 = .ok (.ireturn, 1) := by decide +kernel
theorem d_law_634 : decode code 634 = .ok (.goto 28, 3) := by decide +kernel
theorem d_law_637 : decode code 637 = .ok (.aload_n 1, 1) := by decide +kernel
theorem d_law_638 : decode code 638 = .ok (.aload_n 0, 1) := by decide +kernel
theorem d_law_639 : decode code 639 = .ok (.iload 4, 2) := by decide +kernel
theorem d_law_641 : decode code 641 = .ok (.iconst 1, 1) := by decide +kernel
theorem d_law_642 : decode code 642 = .ok (.iadd, 1) := by decide +kernel
theorem d_law_643 : decode code 643 = .ok (.iaload, 1) := by decide +kernel
theorem d_law_644 : decode code 644 = .ok (.invokevirtual 97, 3) := by decide +kernel
theorem d_law_647 : decode code 647 = .ok (.aload_n 2, 1) := by decide +kernel
theorem d_law_648 : decode code 648 = .ok (.aload_n 0, 1) := by decide +kernel
theorem d_law_649 : decode code 649 = .ok (.iload 4, 2) := by decide +kernel
theorem d_law_651 : decode code 651 = .ok (.iconst 1, 1) := by decide +kernel
theorem d_law_652 : decode code 652 = .ok (.iadd, 1) := by decide +kernel
theorem d_law_653 : decode code 653 = .ok (.iaload, 1) := by decide +kernel
theorem d_law_654 : decode code 654 = .ok (.invokevirtual 100, 3) := by decide +kernel
theorem d_law_657 : decode code 657 = .ok (.if_icmp .eq 5, 3) := by decide +kernel
theorem d_law_660 : decode code 660 = .ok (.iconst 0, 1) := by decide +kernel
theorem d_law_661 : decode code 661 = .ok (.ireturn, 1) := by decide +kernel
theorem d_law_662 : decode code 662 = .ok (.iinc 4 4, 3) := by decide +kernel
theorem d_law_665 : decode code 665 = .ok (.goto (-642), 3) := by decide +kernel
theorem d_law_668 : decode code 668 = .ok (.iconst 1, 1) := by decide +kernel
theorem d_law_669 : decode code 669 = .ok (.ireturn, 1) := by decide +kernel
