theorem q170 : Cond.methodLink RL 88 yX3_begin ∈ WS := memT 170 (by decide +kernel) (by decide +kernel)
theorem q173 : Cond.code yX3_begin cX3_begin 2 (some .int) ∈ WS := memT 173 (by decide +kernel) (by decide +kernel)
theorem q171 : Cond.instanceMethod yX3_begin ∈ WS := memT 171 (by decide +kernel) (by decide +kernel)
theorem q172 : Cond.selects RX3 yX3_begin yX3_begin ∈ WS := memT 172 (by decide +kernel) (by decide +kernel)
theorem q823 : Cond.methodLink RL 91 yX4_begin ∈ WS := memT 823 (by decide +kernel) (by decide +kernel)
theorem q826 : Cond.code yX4_begin cX4_begin 2 (some .int) ∈ WS := memT 826 (by decide +kernel) (by decide +kernel)
theorem q824 : Cond.instanceMethod yX4_begin ∈ WS := memT 824 (by decide +kernel) (by decide +kernel)
theorem q825 : Cond.selects RX4 yX4_begin yX4_begin ∈ WS := memT 825 (by decide +kernel) (by decide +kernel)
theorem q448 : Cond.methodLink RL 92 yL_addScope ∈ WS := memT 448 (by decide +kernel) (by decide +kernel)
theorem q449 : Cond.static yL_addScope ∈ WS := memT 449 (by decide +kernel) (by decide +kernel)
theorem q0 : Cond.initialized RL ∈ WS := memT 0 (by decide +kernel) (by decide +kernel)
theorem q450 : Cond.codeWith yL_addScope cL_addScope 4 (some .int) [(0, 9, 12, 13), (0, 9, 15, 15)] ∈ WS := memT 450 (by decide +kernel) (by decide +kernel)
theorem q827 : Cond.methodLink RL 97 yX4_addScope ∈ WS := memT 827 (by decide +kernel) (by decide +kernel)
theorem q819 : Cond.methodLink RL 98 yX4_thrown ∈ WS := memT 819 (by decide +kernel) (by decide +kernel)
theorem q822 : Cond.code yX4_thrown cX4_thrown 1 (some .int) ∈ WS := memT 822 (by decide +kernel) (by decide +kernel)
theorem q820 : Cond.instanceMethod yX4_thrown ∈ WS := memT 820 (by decide +kernel) (by decide +kernel)
theorem q821 : Cond.selects RX4 yX4_thrown yX4_thrown ∈ WS := memT 821 (by decide +kernel) (by decide +kernel)
theorem q490 : Cond.methodLink RL 101 yL_declare ∈ WS := memT 490 (by decide +kernel) (by decide +kernel)
theorem q491 : Cond.static yL_declare ∈ WS := memT 491 (by decide +kernel) (by decide +kernel)
theorem q492 : Cond.codeWith yL_declare cL_declare 6 (some .int) [(0, 12, 15, 13), (0, 12, 19, 21), (0, 12, 23, 15)] ∈ WS := memT 492 (by decide +kernel) (by decide +kernel)
theorem q838 : Cond.methodLink RL 104 yX4_declare ∈ WS := memT 838 (by decide +kernel) (by decide +kernel)
theorem q513 : Cond.methodLink RL 105 yL_importOne ∈ WS := memT 513 (by decide +kernel) (by decide +kernel)
theorem q514 : Cond.static yL_importOne ∈ WS := memT 514 (by decide +kernel) (by decide +kernel)
theorem q515 : Cond.codeWith yL_importOne cL_importOne 8 (some .int) [(0, 16, 19, 13), (0, 16, 23, 21), (0, 16, 27, 15)] ∈ WS := memT 515 (by decide +kernel) (by decide +kernel)
theorem q853 : Cond.methodLink RL 108 yX4_importOne ∈ WS := memT 853 (by decide +kernel) (by decide +kernel)
theorem q529 : Cond.methodLink RL 109 yL_importAll ∈ WS := memT 529 (by decide +kernel) (by decide +kernel)
theorem q530 : Cond.static yL_importAll ∈ WS := memT 530 (by decide +kernel) (by decide +kernel)
theorem q531 : Cond.codeWith yL_importAll cL_importAll 7 (some .int) [(0, 14, 17, 13), (0, 14, 21, 21), (0, 14, 25, 15)] ∈ WS := memT 531 (by decide +kernel) (by decide +kernel)
theorem q865 : Cond.methodLink RL 112 yX4_importAll ∈ WS := memT 865 (by decide +kernel) (by decide +kernel)
theorem q537 : Cond.methodLink RL 113 yL_use ∈ WS := memT 537 (by decide +kernel) (by decide +kernel)
theorem q538 : Cond.static yL_use ∈ WS := memT 538 (by decide +kernel) (by decide +kernel)
theorem q539 : Cond.codeWith yL_use cL_use 5 (some .int) [(0, 10, 13, 13), (0, 10, 17, 21), (0, 10, 21, 15)] ∈ WS := memT 539 (by decide +kernel) (by decide +kernel)
theorem q870 : Cond.methodLink RL 116 yX4_use ∈ WS := memT 870 (by decide +kernel) (by decide +kernel)
theorem q552 : Cond.methodLink RL 117 yL_remove ∈ WS := memT 552 (by decide +kernel) (by decide +kernel)
theorem q553 : Cond.static yL_remove ∈ WS := memT 553 (by decide +kernel) (by decide +kernel)
theorem q554 : Cond.codeWith yL_remove cL_remove 5 (some .int) [(0, 10, 13, 21), (0, 10, 17, 13)] ∈ WS := memT 554 (by decide +kernel) (by decide +kernel)
theorem q874 : Cond.methodLink RL 119 yX4_remove ∈ WS := memT 874 (by decide +kernel) (by decide +kernel)
theorem q877 : Cond.code yX4_remove cX4_remove 3 (some .int) ∈ WS := memT 877 (by decide +kernel) (by decide +kernel)
theorem q875 : Cond.instanceMethod yX4_remove ∈ WS := memT 875 (by decide +kernel) (by decide +kernel)
theorem q876 : Cond.selects RX4 yX4_remove yX4_remove ∈ WS := memT 876 (by decide +kernel) (by decide +kernel)
theorem q579 : Cond.methodLink RL 120 yL_append ∈ WS := memT 579 (by decide +kernel) (by decide +kernel)
theorem q580 : Cond.static yL_append ∈ WS := memT 580 (by decide +kernel) (by decide +kernel)
theorem q581 : Cond.codeWith yL_append cL_append 4 (some .int) [(0, 9, 12, 21), (0, 9, 15, 15)] ∈ WS := memT 581 (by decide +kernel) (by decide +kernel)
theorem q945 : Cond.methodLink RL 122 yX4_append ∈ WS := memT 945 (by decide +kernel) (by decide +kernel)
theorem q948 : Cond.code yX4_append cX4_append 2 (some .int) ∈ WS := memT 948 (by decide +kernel) (by decide +kernel)
theorem q946 : Cond.instanceMethod yX4_append ∈ WS := memT 946 (by decide +kernel) (by decide +kernel)
theorem q947 : Cond.selects RX4 yX4_append yX4_append ∈ WS := memT 947 (by decide +kernel) (by decide +kernel)
theorem q207 : Cond.methodLink RL 123 yX3_clearBuffer ∈ WS := memT 207 (by decide +kernel) (by decide +kernel)
theorem q210 : Cond.code yX3_clearBuffer cX3_clearBuffer 2 (some .int) ∈ WS := memT 210 (by decide +kernel) (by decide +kernel)
theorem q208 : Cond.instanceMethod yX3_clearBuffer ∈ WS := memT 208 (by decide +kernel) (by decide +kernel)
theorem q209 : Cond.selects RX3 yX3_clearBuffer yX3_clearBuffer ∈ WS := memT 209 (by decide +kernel) (by decide +kernel)
theorem q949 : Cond.methodLink RL 126 yX4_clearBuffer ∈ WS := memT 949 (by decide +kernel) (by decide +kernel)
theorem q952 : Cond.code yX4_clearBuffer cX4_clearBuffer 2 (some .int) ∈ WS := memT 952 (by decide +kernel) (by decide +kernel)
theorem q950 : Cond.instanceMethod yX4_clearBuffer ∈ WS := memT 950 (by decide +kernel) (by decide +kernel)
theorem q951 : Cond.selects RX4 yX4_clearBuffer yX4_clearBuffer ∈ WS := memT 951 (by decide +kernel) (by decide +kernel)
theorem q211 : Cond.methodLink RL 127 yX3_firstError ∈ WS := memT 211 (by decide +kernel) (by decide +kernel)
theorem q214 : Cond.code yX3_firstError cX3_firstError 1 (some .int) ∈ WS := memT 214 (by decide +kernel) (by decide +kernel)
theorem q212 : Cond.instanceMethod yX3_firstError ∈ WS := memT 212 (by decide +kernel) (by decide +kernel)
theorem q213 : Cond.selects RX3 yX3_firstError yX3_firstError ∈ WS := memT 213 (by decide +kernel) (by decide +kernel)
theorem q953 : Cond.methodLink RL 130 yX4_firstError ∈ WS := memT 953 (by decide +kernel) (by decide +kernel)
theorem q956 : Cond.code yX4_firstError cX4_firstError 1 (some .int) ∈ WS := memT 956 (by decide +kernel) (by decide +kernel)
theorem q954 : Cond.instanceMethod yX4_firstError ∈ WS := memT 954 (by decide +kernel) (by decide +kernel)
theorem q955 : Cond.selects RX4 yX4_firstError yX4_firstError ∈ WS := memT 955 (by decide +kernel) (by decide +kernel)
theorem q592 : Cond.methodLink RL 131 yL_load ∈ WS := memT 592 (by decide +kernel) (by decide +kernel)
theorem q593 : Cond.static yL_load ∈ WS := memT 593 (by decide +kernel) (by decide +kernel)
theorem q594 : Cond.codeWith yL_load cL_load 3 (some .int) [(0, 8, 11, 21), (0, 8, 14, 15)] ∈ WS := memT 594 (by decide +kernel) (by decide +kernel)
theorem q1000 : Cond.methodLink RL 134 yX4_load ∈ WS := memT 1000 (by decide +kernel) (by decide +kernel)
theorem q1003 : Cond.code yX4_load cX4_load 2 (some .int) ∈ WS := memT 1003 (by decide +kernel) (by decide +kernel)
theorem q1001 : Cond.instanceMethod yX4_load ∈ WS := memT 1001 (by decide +kernel) (by decide +kernel)
theorem q1002 : Cond.selects RX4 yX4_load yX4_load ∈ WS := memT 1002 (by decide +kernel) (by decide +kernel)
theorem q630 : Cond.methodLink RL 135 yL_resolve ∈ WS := memT 630 (by decide +kernel) (by decide +kernel)
theorem q631 : Cond.static yL_resolve ∈ WS := memT 631 (by decide +kernel) (by decide +kernel)
theorem q632 : Cond.codeWith yL_resolve cL_resolve 6 (some .int) [(0, 12, 15, 13), (0, 12, 19, 21)] ∈ WS := memT 632 (by decide +kernel) (by decide +kernel)
theorem q1008 : Cond.methodLink RL 138 yX4_resolve ∈ WS := memT 1008 (by decide +kernel) (by decide +kernel)
theorem q1011 : Cond.code yX4_resolve cX4_resolve 4 (some .int) ∈ WS := memT 1011 (by decide +kernel) (by decide +kernel)
theorem q1009 : Cond.instanceMethod yX4_resolve ∈ WS := memT 1009 (by decide +kernel) (by decide +kernel)
theorem q1010 : Cond.selects RX4 yX4_resolve yX4_resolve ∈ WS := memT 1010 (by decide +kernel) (by decide +kernel)
theorem q643 : Cond.methodLink RL 139 yL_candidate ∈ WS := memT 643 (by decide +kernel) (by decide +kernel)
theorem q644 : Cond.static yL_candidate ∈ WS := memT 644 (by decide +kernel) (by decide +kernel)
theorem q645 : Cond.codeWith yL_candidate cL_candidate 7 (some .int) [(0, 14, 17, 13), (0, 14, 21, 21)] ∈ WS := memT 645 (by decide +kernel) (by decide +kernel)
theorem q1025 : Cond.methodLink RL 142 yX4_candidate ∈ WS := memT 1025 (by decide +kernel) (by decide +kernel)
theorem q1028 : Cond.code yX4_candidate cX4_candidate 5 (some .int) ∈ WS := memT 1028 (by decide +kernel) (by decide +kernel)
theorem q1026 : Cond.instanceMethod yX4_candidate ∈ WS := memT 1026 (by decide +kernel) (by decide +kernel)
theorem q1027 : Cond.selects RX4 yX4_candidate yX4_candidate ∈ WS := memT 1027 (by decide +kernel) (by decide +kernel)
theorem q657 : Cond.methodLink RL 143 yL_offers ∈ WS := memT 657 (by decide +kernel) (by decide +kernel)
theorem q658 : Cond.static yL_offers ∈ WS := memT 658 (by decide +kernel) (by decide +kernel)
theorem q659 : Cond.codeWith yL_offers cL_offers 5 (some .int) [(0, 10, 13, 13), (0, 10, 17, 21)] ∈ WS := memT 659 (by decide +kernel) (by decide +kernel)
theorem q1033 : Cond.methodLink RL 145 yX4_offers ∈ WS := memT 1033 (by decide +kernel) (by decide +kernel)
theorem q1036 : Cond.code yX4_offers cX4_offers 3 (some .int) ∈ WS := memT 1036 (by decide +kernel) (by decide +kernel)
theorem q1034 : Cond.instanceMethod yX4_offers ∈ WS := memT 1034 (by decide +kernel) (by decide +kernel)
theorem q1035 : Cond.selects RX4 yX4_offers yX4_offers ∈ WS := memT 1035 (by decide +kernel) (by decide +kernel)
theorem q664 : Cond.methodLink RL 146 yL_visible ∈ WS := memT 664 (by decide +kernel) (by decide +kernel)
theorem q665 : Cond.static yL_visible ∈ WS := memT 665 (by decide +kernel) (by decide +kernel)
theorem q666 : Cond.codeWith yL_visible cL_visible 5 (some .int) [(0, 10, 13, 13)] ∈ WS := memT 666 (by decide +kernel) (by decide +kernel)
theorem q1037 : Cond.methodLink RL 149 yX4_visible ∈ WS := memT 1037 (by decide +kernel) (by decide +kernel)
theorem q1040 : Cond.code yX4_visible cX4_visible 3 (some .int) ∈ WS := memT 1040 (by decide +kernel) (by decide +kernel)
theorem q1038 : Cond.instanceMethod yX4_visible ∈ WS := memT 1038 (by decide +kernel) (by decide +kernel)
theorem q1039 : Cond.selects RX4 yX4_visible yX4_visible ∈ WS := memT 1039 (by decide +kernel) (by decide +kernel)
theorem q668 : Cond.methodLink RL 150 yL_rename ∈ WS := memT 668 (by decide +kernel) (by decide +kernel)
theorem q669 : Cond.static yL_rename ∈ WS := memT 669 (by decide +kernel) (by decide +kernel)
theorem q670 : Cond.codeWith yL_rename cL_rename 5 (some .int) [(0, 10, 13, 13), (0, 10, 17, 21)] ∈ WS := memT 670 (by decide +kernel) (by decide +kernel)
theorem q1045 : Cond.methodLink RL 152 yX4_rename ∈ WS := memT 1045 (by decide +kernel) (by decide +kernel)
theorem q1048 : Cond.code yX4_rename cX4_rename 3 (some .int) ∈ WS := memT 1048 (by decide +kernel) (by decide +kernel)
theorem q1046 : Cond.instanceMethod yX4_rename ∈ WS := memT 1046 (by decide +kernel) (by decide +kernel)
theorem q1047 : Cond.selects RX4 yX4_rename yX4_rename ∈ WS := memT 1047 (by decide +kernel) (by decide +kernel)
theorem q691 : Cond.methodLink RL 153 yL_ifRenamed ∈ WS := memT 691 (by decide +kernel) (by decide +kernel)
theorem q692 : Cond.static yL_ifRenamed ∈ WS := memT 692 (by decide +kernel) (by decide +kernel)
theorem q693 : Cond.codeWith yL_ifRenamed cL_ifRenamed 6 (some .int) [(0, 12, 15, 13), (0, 12, 19, 21)] ∈ WS := memT 693 (by decide +kernel) (by decide +kernel)
theorem q1061 : Cond.methodLink RL 155 yX4_ifRenamed ∈ WS := memT 1061 (by decide +kernel) (by decide +kernel)
theorem q1064 : Cond.code yX4_ifRenamed cX4_ifRenamed 5 (some .int) ∈ WS := memT 1064 (by decide +kernel) (by decide +kernel)
theorem q1062 : Cond.instanceMethod yX4_ifRenamed ∈ WS := memT 1062 (by decide +kernel) (by decide +kernel)
theorem q1063 : Cond.selects RX4 yX4_ifRenamed yX4_ifRenamed ∈ WS := memT 1063 (by decide +kernel) (by decide +kernel)
theorem q703 : Cond.methodLink RL 156 yL_freeName ∈ WS := memT 703 (by decide +kernel) (by decide +kernel)
theorem q704 : Cond.static yL_freeName ∈ WS := memT 704 (by decide +kernel) (by decide +kernel)
theorem q705 : Cond.codeWith yL_freeName cL_freeName 4 (some .int) [(0, 9, 12, 13)] ∈ WS := memT 705 (by decide +kernel) (by decide +kernel)
theorem q1065 : Cond.methodLink RL 158 yX4_freeName ∈ WS := memT 1065 (by decide +kernel) (by decide +kernel)
theorem q1068 : Cond.code yX4_freeName cX4_freeName 3 (some .int) ∈ WS := memT 1068 (by decide +kernel) (by decide +kernel)
theorem q1066 : Cond.instanceMethod yX4_freeName ∈ WS := memT 1066 (by decide +kernel) (by decide +kernel)
theorem q1067 : Cond.selects RX4 yX4_freeName yX4_freeName ∈ WS := memT 1067 (by decide +kernel) (by decide +kernel)
theorem q710 : Cond.methodLink RL 159 yL_count ∈ WS := memT 710 (by decide +kernel) (by decide +kernel)
theorem q711 : Cond.static yL_count ∈ WS := memT 711 (by decide +kernel) (by decide +kernel)
theorem q712 : Cond.codeWith yL_count cL_count 4 (some .int) [(0, 9, 12, 21)] ∈ WS := memT 712 (by decide +kernel) (by decide +kernel)
theorem q1069 : Cond.methodLink RL 161 yX4_count ∈ WS := memT 1069 (by decide +kernel) (by decide +kernel)
theorem q1072 : Cond.code yX4_count cX4_count 2 (some .int) ∈ WS := memT 1072 (by decide +kernel) (by decide +kernel)
theorem q1070 : Cond.instanceMethod yX4_count ∈ WS := memT 1070 (by decide +kernel) (by decide +kernel)
theorem q1071 : Cond.selects RX4 yX4_count yX4_count ∈ WS := memT 1071 (by decide +kernel) (by decide +kernel)
theorem q714 : Cond.methodLink RL 162 yL_declaration ∈ WS := memT 714 (by decide +kernel) (by decide +kernel)
theorem q715 : Cond.static yL_declaration ∈ WS := memT 715 (by decide +kernel) (by decide +kernel)
theorem q716 : Cond.codeWith yL_declaration cL_declaration 5 (some .int) [(0, 10, 13, 13), (0, 10, 17, 21)] ∈ WS := memT 716 (by decide +kernel) (by decide +kernel)
theorem q1113 : Cond.methodLink RL 164 yX4_declaration ∈ WS := memT 1113 (by decide +kernel) (by decide +kernel)
theorem q1116 : Cond.code yX4_declaration cX4_declaration 3 (some .int) ∈ WS := memT 1116 (by decide +kernel) (by decide +kernel)
theorem q1114 : Cond.instanceMethod yX4_declaration ∈ WS := memT 1114 (by decide +kernel) (by decide +kernel)
theorem q1115 : Cond.selects RX4 yX4_declaration yX4_declaration ∈ WS := memT 1115 (by decide +kernel) (by decide +kernel)
theorem q718 : Cond.methodLink RL 165 yL_imported ∈ WS := memT 718 (by decide +kernel) (by decide +kernel)
theorem q719 : Cond.static yL_imported ∈ WS := memT 719 (by decide +kernel) (by decide +kernel)
theorem q720 : Cond.codeWith yL_imported cL_imported 5 (some .int) [(0, 10, 13, 13), (0, 10, 17, 21)] ∈ WS := memT 720 (by decide +kernel) (by decide +kernel)
theorem q1129 : Cond.methodLink RL 167 yX4_imported ∈ WS := memT 1129 (by decide +kernel) (by decide +kernel)
theorem q1132 : Cond.code yX4_imported cX4_imported 3 (some .int) ∈ WS := memT 1132 (by decide +kernel) (by decide +kernel)
theorem q1130 : Cond.instanceMethod yX4_imported ∈ WS := memT 1130 (by decide +kernel) (by decide +kernel)
theorem q1131 : Cond.selects RX4 yX4_imported yX4_imported ∈ WS := memT 1131 (by decide +kernel) (by decide +kernel)
theorem q722 : Cond.methodLink RL 168 yL_used ∈ WS := memT 722 (by decide +kernel) (by decide +kernel)
theorem q723 : Cond.static yL_used ∈ WS := memT 723 (by decide +kernel) (by decide +kernel)
theorem q724 : Cond.codeWith yL_used cL_used 5 (some .int) [(0, 10, 13, 13), (0, 10, 17, 21)] ∈ WS := memT 724 (by decide +kernel) (by decide +kernel)
theorem q1137 : Cond.methodLink RL 170 yX4_used ∈ WS := memT 1137 (by decide +kernel) (by decide +kernel)
theorem q1140 : Cond.code yX4_used cX4_used 3 (some .int) ∈ WS := memT 1140 (by decide +kernel) (by decide +kernel)
theorem q1138 : Cond.instanceMethod yX4_used ∈ WS := memT 1138 (by decide +kernel) (by decide +kernel)
theorem q1139 : Cond.selects RX4 yX4_used yX4_used ∈ WS := memT 1139 (by decide +kernel) (by decide +kernel)
theorem q726 : Cond.methodLink RL 171 yL_parent ∈ WS := memT 726 (by decide +kernel) (by decide +kernel)
theorem q727 : Cond.static yL_parent ∈ WS := memT 727 (by decide +kernel) (by decide +kernel)
theorem q728 : Cond.codeWith yL_parent cL_parent 4 (some .int) [(0, 9, 12, 13)] ∈ WS := memT 728 (by decide +kernel) (by decide +kernel)
theorem q1145 : Cond.methodLink RL 173 yX4_parent ∈ WS := memT 1145 (by decide +kernel) (by decide +kernel)
theorem q1148 : Cond.code yX4_parent cX4_parent 2 (some .int) ∈ WS := memT 1148 (by decide +kernel) (by decide +kernel)
theorem q1146 : Cond.instanceMethod yX4_parent ∈ WS := memT 1146 (by decide +kernel) (by decide +kernel)
theorem q1147 : Cond.selects RX4 yX4_parent yX4_parent ∈ WS := memT 1147 (by decide +kernel) (by decide +kernel)
theorem q225 : Cond.methodLink RL 174 yX3_resolvedShare ∈ WS := memT 225 (by decide +kernel) (by decide +kernel)
theorem q228 : Cond.code yX3_resolvedShare cX3_resolvedShare 1 (some .double) ∈ WS := memT 228 (by decide +kernel) (by decide +kernel)
theorem q226 : Cond.instanceMethod yX3_resolvedShare ∈ WS := memT 226 (by decide +kernel) (by decide +kernel)
theorem q227 : Cond.selects RX3 yX3_resolvedShare yX3_resolvedShare ∈ WS := memT 227 (by decide +kernel) (by decide +kernel)
theorem q1149 : Cond.methodLink RL 178 yX4_resolvedShare ∈ WS := memT 1149 (by decide +kernel) (by decide +kernel)
theorem q1152 : Cond.code yX4_resolvedShare cX4_resolvedShare 1 (some .double) ∈ WS := memT 1152 (by decide +kernel) (by decide +kernel)
theorem q1150 : Cond.instanceMethod yX4_resolvedShare ∈ WS := memT 1150 (by decide +kernel) (by decide +kernel)
theorem q1151 : Cond.selects RX4 yX4_resolvedShare yX4_resolvedShare ∈ WS := memT 1151 (by decide +kernel) (by decide +kernel)
theorem q259 : Cond.methodLink RL 179 yX3_digest ∈ WS := memT 259 (by decide +kernel) (by decide +kernel)
theorem q262 : Cond.code yX3_digest cX3_digest 5 (some .long) ∈ WS := memT 262 (by decide +kernel) (by decide +kernel)
theorem q260 : Cond.instanceMethod yX3_digest ∈ WS := memT 260 (by decide +kernel) (by decide +kernel)
theorem q261 : Cond.selects RX3 yX3_digest yX3_digest ∈ WS := memT 261 (by decide +kernel) (by decide +kernel)
theorem q1153 : Cond.methodLink RL 183 yX4_digest ∈ WS := memT 1153 (by decide +kernel) (by decide +kernel)
theorem q1156 : Cond.code yX4_digest cX4_digest 2 (some .long) ∈ WS := memT 1156 (by decide +kernel) (by decide +kernel)
theorem q1154 : Cond.instanceMethod yX4_digest ∈ WS := memT 1154 (by decide +kernel) (by decide +kernel)
theorem q1155 : Cond.selects RX4 yX4_digest yX4_digest ∈ WS := memT 1155 (by decide +kernel) (by decide +kernel)
theorem kv_X3_begin : OKV yX3_begin RX3 cX3_begin 2 (some .int) 0 := ⟨⟨q171, q172, q1, q173⟩, by decide +kernel⟩
theorem kv_X4_begin : OKV yX4_begin RX4 cX4_begin 2 (some .int) 0 := ⟨⟨q824, q825, q5, q826⟩, by decide +kernel⟩
theorem kw_L_addScope : OKW yL_addScope cL_addScope 4 [(0, 9, 12, 13), (0, 9, 15, 15)] 3 := ⟨⟨q449, q0, q450⟩, by decide +kernel⟩
theorem kv_X4_thrown : OKV yX4_thrown RX4 cX4_thrown 1 (some .int) 0 := ⟨⟨q820, q821, q5, q822⟩, by decide +kernel⟩
theorem kw_L_declare : OKW yL_declare cL_declare 6 [(0, 12, 15, 13), (0, 12, 19, 21), (0, 12, 23, 15)] 5 := ⟨⟨q491, q0, q492⟩, by decide +kernel⟩
theorem kw_L_importOne : OKW yL_importOne cL_importOne 8 [(0, 16, 19, 13), (0, 16, 23, 21), (0, 16, 27, 15)] 7 := ⟨⟨q514, q0, q515⟩, by decide +kernel⟩
theorem kw_L_importAll : OKW yL_importAll cL_importAll 7 [(0, 14, 17, 13), (0, 14, 21, 21), (0, 14, 25, 15)] 6 := ⟨⟨q530, q0, q531⟩, by decide +kernel⟩
theorem kw_L_use : OKW yL_use cL_use 5 [(0, 10, 13, 13), (0, 10, 17, 21), (0, 10, 21, 15)] 4 := ⟨⟨q538, q0, q539⟩, by decide +kernel⟩
theorem kw_L_remove : OKW yL_remove cL_remove 5 [(0, 10, 13, 21), (0, 10, 17, 13)] 4 := ⟨⟨q553, q0, q554⟩, by decide +kernel⟩
theorem kv_X4_remove : OKV yX4_remove RX4 cX4_remove 3 (some .int) 2 := ⟨⟨q875, q876, q5, q877⟩, by decide +kernel⟩
theorem kw_L_append : OKW yL_append cL_append 4 [(0, 9, 12, 21), (0, 9, 15, 15)] 3 := ⟨⟨q580, q0, q581⟩, by decide +kernel⟩
theorem kv_X4_append : OKV yX4_append RX4 cX4_append 2 (some .int) 1 := ⟨⟨q946, q947, q5, q948⟩, by decide +kernel⟩
theorem kv_X3_clearBuffer : OKV yX3_clearBuffer RX3 cX3_clearBuffer 2 (some .int) 0 := ⟨⟨q208, q209, q1, q210⟩, by decide +kernel⟩
theorem kv_X4_clearBuffer : OKV yX4_clearBuffer RX4 cX4_clearBuffer 2 (some .int) 0 := ⟨⟨q950, q951, q5, q952⟩, by decide +kernel⟩
theorem kv_X3_firstError : OKV yX3_firstError RX3 cX3_firstError 1 (some .int) 0 := ⟨⟨q212, q213, q1, q214⟩, by decide +kernel⟩
theorem kv_X4_firstError : OKV yX4_firstError RX4 cX4_firstError 1 (some .int) 0 := ⟨⟨q954, q955, q5, q956⟩, by decide +kernel⟩
theorem kw_L_load : OKW yL_load cL_load 3 [(0, 8, 11, 21), (0, 8, 14, 15)] 2 := ⟨⟨q593, q0, q594⟩, by decide +kernel⟩
theorem kv_X4_load : OKV yX4_load RX4 cX4_load 2 (some .int) 0 := ⟨⟨q1001, q1002, q5, q1003⟩, by decide +kernel⟩
theorem kw_L_resolve : OKW yL_resolve cL_resolve 6 [(0, 12, 15, 13), (0, 12, 19, 21)] 5 := ⟨⟨q631, q0, q632⟩, by decide +kernel⟩
theorem kv_X4_resolve : OKV yX4_resolve RX4 cX4_resolve 4 (some .int) 3 := ⟨⟨q1009, q1010, q5, q1011⟩, by decide +kernel⟩
theorem kw_L_candidate : OKW yL_candidate cL_candidate 7 [(0, 14, 17, 13), (0, 14, 21, 21)] 6 := ⟨⟨q644, q0, q645⟩, by decide +kernel⟩
theorem kv_X4_candidate : OKV yX4_candidate RX4 cX4_candidate 5 (some .int) 4 := ⟨⟨q1026, q1027, q5, q1028⟩, by decide +kernel⟩
theorem kw_L_offers : OKW yL_offers cL_offers 5 [(0, 10, 13, 13), (0, 10, 17, 21)] 4 := ⟨⟨q658, q0, q659⟩, by decide +kernel⟩
theorem kv_X4_offers : OKV yX4_offers RX4 cX4_offers 3 (some .int) 2 := ⟨⟨q1034, q1035, q5, q1036⟩, by decide +kernel⟩
theorem kw_L_visible : OKW yL_visible cL_visible 5 [(0, 10, 13, 13)] 4 := ⟨⟨q665, q0, q666⟩, by decide +kernel⟩
theorem kv_X4_visible : OKV yX4_visible RX4 cX4_visible 3 (some .int) 2 := ⟨⟨q1038, q1039, q5, q1040⟩, by decide +kernel⟩
theorem kw_L_rename : OKW yL_rename cL_rename 5 [(0, 10, 13, 13), (0, 10, 17, 21)] 4 := ⟨⟨q669, q0, q670⟩, by decide +kernel⟩
theorem kv_X4_rename : OKV yX4_rename RX4 cX4_rename 3 (some .int) 2 := ⟨⟨q1046, q1047, q5, q1048⟩, by decide +kernel⟩
theorem kw_L_ifRenamed : OKW yL_ifRenamed cL_ifRenamed 6 [(0, 12, 15, 13), (0, 12, 19, 21)] 5 := ⟨⟨q692, q0, q693⟩, by decide +kernel⟩
theorem kv_X4_ifRenamed : OKV yX4_ifRenamed RX4 cX4_ifRenamed 5 (some .int) 3 := ⟨⟨q1062, q1063, q5, q1064⟩, by decide +kernel⟩
theorem kw_L_freeName : OKW yL_freeName cL_freeName 4 [(0, 9, 12, 13)] 3 := ⟨⟨q704, q0, q705⟩, by decide +kernel⟩
theorem kv_X4_freeName : OKV yX4_freeName RX4 cX4_freeName 3 (some .int) 1 := ⟨⟨q1066, q1067, q5, q1068⟩, by decide +kernel⟩
theorem kw_L_count : OKW yL_count cL_count 4 [(0, 9, 12, 21)] 3 := ⟨⟨q711, q0, q712⟩, by decide +kernel⟩
theorem kv_X4_count : OKV yX4_count RX4 cX4_count 2 (some .int) 1 := ⟨⟨q1070, q1071, q5, q1072⟩, by decide +kernel⟩
theorem kw_L_declaration : OKW yL_declaration cL_declaration 5 [(0, 10, 13, 13), (0, 10, 17, 21)] 4 := ⟨⟨q715, q0, q716⟩, by decide +kernel⟩
theorem kv_X4_declaration : OKV yX4_declaration RX4 cX4_declaration 3 (some .int) 2 := ⟨⟨q1114, q1115, q5, q1116⟩, by decide +kernel⟩
theorem kw_L_imported : OKW yL_imported cL_imported 5 [(0, 10, 13, 13), (0, 10, 17, 21)] 4 := ⟨⟨q719, q0, q720⟩, by decide +kernel⟩
theorem kv_X4_imported : OKV yX4_imported RX4 cX4_imported 3 (some .int) 2 := ⟨⟨q1130, q1131, q5, q1132⟩, by decide +kernel⟩
theorem kw_L_used : OKW yL_used cL_used 5 [(0, 10, 13, 13), (0, 10, 17, 21)] 4 := ⟨⟨q723, q0, q724⟩, by decide +kernel⟩
theorem kv_X4_used : OKV yX4_used RX4 cX4_used 3 (some .int) 2 := ⟨⟨q1138, q1139, q5, q1140⟩, by decide +kernel⟩
theorem kw_L_parent : OKW yL_parent cL_parent 4 [(0, 9, 12, 13)] 3 := ⟨⟨q727, q0, q728⟩, by decide +kernel⟩
theorem kv_X4_parent : OKV yX4_parent RX4 cX4_parent 2 (some .int) 1 := ⟨⟨q1146, q1147, q5, q1148⟩, by decide +kernel⟩
theorem kv_X3_resolvedShare : OKV yX3_resolvedShare RX3 cX3_resolvedShare 1 (some .double) 0 := ⟨⟨q226, q227, q1, q228⟩, by decide +kernel⟩
theorem kv_X4_resolvedShare : OKV yX4_resolvedShare RX4 cX4_resolvedShare 1 (some .double) 0 := ⟨⟨q1150, q1151, q5, q1152⟩, by decide +kernel⟩
theorem kv_X3_digest : OKV yX3_digest RX3 cX3_digest 5 (some .long) 0 := ⟨⟨q260, q261, q1, q262⟩, by decide +kernel⟩
theorem kv_X4_digest : OKV yX4_digest RX4 cX4_digest 2 (some .long) 0 := ⟨⟨q1154, q1155, q5, q1156⟩, by decide +kernel⟩
noncomputable def L_law_j156 (xs : Nat → Int32) (L : Nat) (v4 : Int32) (μ : Mm) : Option Mm :=
  bn (X3_begin μ) fun q4 μ5 =>
  bn (X4_begin μ5) fun q7 μ8 =>
  (if q4 = q7 then some μ8 else none)
theorem ok_L_law_j156 {l : Launch} {p : Program} {e : Env} {s : State} {m : MethodId} {args : Array Value} {below : List Frame} {meth : Method} {c : Code} {D : va_G} {cI cL : ClassId} {ad : Nat → Nat} {A : Nat → Prop} {Q : State → Prop} {bS cs sl : Nat} {ret9 : Option FieldType} (C : CX p l s m args meth c RL cL_law 9 ret9 D cI cL A) {r : Mm} {xs : Nat → Int32} {L : Nat} {v4 : Int32} (hex : NcX s ∧ va_X bS L xs s s.heap ∧ bS < s.heap.size ∧ ¬ A bS ∧ cs + 1 ≤ 1088 ∧ sl + 6 ≤ 13600) (hk : AW p l e room_1 s m args below meth c 9 D cI cL ad A (cs + 1) (sl + 6) Q 1710 [(0, .ref bS), (1, .ref (ad 0)), (2, .ref (ad 45)), (3, .ref (ad 54)), (4, .int v4)] [] r) {μ : Mm}  (h : L_law_j156 xs L v4 μ = some r) : AW p l e room_1 s m args below meth c 9 D cI cL ad A cs sl Q 156 [(0, .ref bS), (1, .ref (ad 0)), (2, .ref (ad 45)), (3, .ref (ad 54)), (4, .int v4)] [] μ := by
  unfold L_law_j156 at h
  refine aw_aload_n (pc := 156) C dL_law_156 rfl 1 rfl ?_
  obtain ⟨q4, μ5, hq3, h⟩ := bn_some h
  refine aw_Vi (pc := 157) (a := 0) (Bs := []) C (ok_X3_begin C.tr hq3) kv_X3_begin q170 rfl rfl rfl rfl dL_law_157 ⟨(show 4 ≤ 15 by decide), (show 114 ≤ 578 by decide)⟩ ⟨(by have h9 := hex.2.2.2.2.1; show _ ≤ 1088; omega), (by have h9 := hex.2.2.2.2.2; show _ ≤ 13600; omega)⟩ [] (Nat.le_of_ble_eq_true rfl) rfl ?_
  refine aw_aload_n (pc := 160) C dL_law_160 rfl 2 rfl ?_
  obtain ⟨q7, μ8, hq6, h⟩ := bn_some h
  refine aw_Vi (pc := 161) (a := 45) (Bs := []) C (ok_X4_begin C.tr hq6) kv_X4_begin q823 rfl rfl rfl rfl dL_law_161 ⟨(show 2 ≤ 15 by decide), (show 52 ≤ 578 by decide)⟩ ⟨(by have h9 := hex.2.2.2.2.1; show _ ≤ 1088; omega), (by have h9 := hex.2.2.2.2.2; show _ ≤ 13600; omega)⟩ [.int q4] (Nat.le_of_ble_eq_true rfl) rfl ?_
  refine aw_icmp_eq (pc := 164) C 1710 dL_law_164 rfl (fun hc => ?_) (fun hc => ?_)
  · replace h := ite_T h hc
    cases h
    refine aw_sub [0, 1, 2, 3, 4] rfl ?_
    exact aw_widen (cs + 1) (sl + 6) (Nat.le_succ _) (Nat.le_add_right _ _) hk
  · replace h := ite_F h hc
    cases h
noncomputable def L_law_j169 (xs : Nat → Int32) (L : Nat) (v4 : Int32) (μ : Mm) : Option Mm :=
  ck (v4 + 1) L <|
  bn (L_addScope (xs ((v4 + 1) : Int32).toNatClampNeg) μ) fun q11 μ12 =>
  ck (v4 + 1) L <|
  bn (X4_addScope (xs ((v4 + 1) : Int32).toNatClampNeg) μ12) fun q16 μ17 =>
  (X4_thrown μ17).bind fun q19 =>
  (if q19 = q11 then (if q11 = 0 then (if (lg_cmp (mOut μ17) (q16).toInt64) = 0 then some μ17 else none) else some μ17) else none)
theorem ok_L_law_j169 {l : Launch} {p : Program} {e : Env} {s : State} {m : MethodId} {args : Array Value} {below : List Frame} {meth : Method} {c : Code} {D : va_G} {cI cL : ClassId} {ad : Nat → Nat} {A : Nat → Prop} {Q : State → Prop} {bS cs sl : Nat} {ret9 : Option FieldType} (C : CX p l s m args meth c RL cL_law 9 ret9 D cI cL A) {r : Mm} {xs : Nat → Int32} {L : Nat} {v4 : Int32} (hex : NcX s ∧ va_X bS L xs s s.heap ∧ bS < s.heap.size ∧ ¬ A bS ∧ cs + 1 ≤ 1088 ∧ sl + 6 ≤ 13600) (hk : AW p l e room_1 s m args below meth c 9 D cI cL ad A (cs + 1) (sl + 6) Q 1710 [(0, .ref bS), (1, .ref (ad 0)), (2, .ref (ad 45)), (3, .ref (ad 54)), (4, .int v4)] [] r) {μ : Mm}  (h : L_law_j169 xs L v4 μ = some r) : AW p l e room_1 s m args below meth c 9 D cI cL ad A cs sl Q 169 [(0, .ref bS), (1, .ref (ad 0)), (2, .ref (ad 45)), (3, .ref (ad 54)), (4, .int v4)] [] μ := by
  unfold L_law_j169 at h
  refine aw_aload_n (pc := 169) C dL_law_169 rfl 1 rfl ?_
  refine aw_aload_n (pc := 170) C dL_law_170 rfl 0 rfl ?_
  refine aw_iload (pc := 171) C dL_law_171 4 rfl ?_
  refine aw_iconst (pc := 173) C (v := 1) dL_law_173 rfl ?_
  refine aw_iadd (pc := 174) C dL_law_174 ?_
  obtain ⟨g10, h⟩ := ck_some h
  refine aw_sld (pc := 175) C hex.2.1 hex.2.2.1 hex.2.2.2.1 g10 dL_law_175 ?_
  refine aw_aload_n (pc := 176) C dL_law_176 rfl 3 rfl ?_
  obtain ⟨q11, μ12, hq13, h⟩ := bn_some h
  refine aw_W (pc := 177) (Bs := [.ref (ad 0), .int (xs ((v4 + 1) : Int32).toNatClampNeg), .ref (ad 54)]) C hex.1 (ok_L_addScope C.tr hq13) kw_L_addScope q448 rfl rfl dL_law_177 ⟨(show 9 ≤ 15 by decide), (show 271 ≤ 578 by decide)⟩ ⟨hex.2.2.2.2.1, hex.2.2.2.2.2⟩ [] (Nat.le_of_ble_eq_true rfl) rfl ?_
  refine aw_istore (pc := 180) C (x := q11) (lv' := [(5, .int q11), (0, .ref bS), (1, .ref (ad 0)), (2, .ref (ad 45)), (3, .ref (ad 54)), (4, .int v4)]) dL_law_180 (by decide) rfl rfl ?_
  refine aw_aload_n (pc := 182) C dL_law_182 rfl 3 rfl ?_
  refine aw_aload_n (pc := 183) C dL_law_183 rfl 1 rfl ?_
  refine aw_iload (pc := 184) C dL_law_184 5 rfl ?_
  refine aw_iconst (pc := 186) C (v := 1) dL_law_186 rfl ?_
  refine aw_iadd (pc := 187) C dL_law_187 ?_
  obtain ⟨g14, h⟩ := ck_some h
  refine aw_sld (pc := 188) C hex.2.1 hex.2.2.1 hex.2.2.2.1 g14 dL_law_188 ?_
  obtain ⟨q16, μ17, hq15, h⟩ := bn_some h
  refine aw_Vi (pc := 189) (a := 45) (Bs := [.int (xs ((v4 + 1) : Int32).toNatClampNeg)]) C (ok_X4_addScope C.tr hq15) kv_X4_addScope q827 rfl rfl rfl rfl dL_law_189 ⟨(show 3 ≤ 15 by decide), (show 83 ≤ 578 by decide)⟩ ⟨(by have h9 := hex.2.2.2.2.1; show _ ≤ 1088; omega), (by have h9 := hex.2.2.2.2.2; show _ ≤ 13600; omega)⟩ [] (Nat.le_of_ble_eq_true rfl) rfl ?_
  refine aw_istore (pc := 192) C (x := q16) (lv' := [(6, .int q16), (5, .int q11), (0, .ref bS), (1, .ref (ad 0)), (2, .ref (ad 45)), (3, .ref (ad 54)), (4, .int v4)]) dL_law_192 (by decide) rfl rfl ?_
  refine aw_aload_n (pc := 194) C dL_law_194 rfl 4 rfl ?_
  obtain ⟨q19, hq18, h⟩ := bi_some h
  refine aw_Vi (pc := 195) (a := 45) (Bs := []) C (ok_X4_thrown C.tr hq18) kv_X4_thrown q819 rfl rfl rfl rfl dL_law_195 ⟨(show 1 ≤ 15 by decide), (show 20 ≤ 578 by decide)⟩ ⟨(by have h9 := hex.2.2.2.2.1; show _ ≤ 1088; omega), (by have h9 := hex.2.2.2.2.2; show _ ≤ 13600; omega)⟩ [] (Nat.le_of_ble_eq_true rfl) rfl ?_
  refine aw_iload (pc := 198) C dL_law_198 1 rfl ?_
  refine aw_icmp_eq (pc := 200) C 205 dL_law_200 rfl (fun hc => ?_) (fun hc => ?_)
  · replace h := ite_T h hc
    refine aw_iload (pc := 205) C dL_law_205 1 rfl ?_
    refine aw_if_ne (pc := 207) C 222 dL_law_207 rfl (fun hc => ?_) (fun hc => ?_)
    · replace h := ite_F h hc
      refine aw_goto (pc := 222) C 1710 dL_law_222 rfl ?_
      cases h
      refine aw_sub [2, 3, 4, 5, 6] rfl ?_
      exact hk
    · replace h := ite_T h hc
      refine aw_aload_n (pc := 210) C dL_law_210 rfl 5 rfl ?_
      refine aw_iconst (pc := 211) C (v := 0) dL_law_211 rfl ?_
      refine aw_laload (pc := 212) C (a := 54) (n := 1) rfl rfl dL_law_212 ?_
      refine aw_iload (pc := 213) C dL_law_213 0 rfl ?_
      refine aw_i2l (pc := 215) C dL_law_215 ?_
      refine aw_lcmp (pc := 216) C dL_law_216 ?_
      refine aw_if_eq (pc := 217) C 222 dL_law_217 rfl (fun hc => ?_) (fun hc => ?_)
      · replace h := ite_T h hc
        refine aw_goto (pc := 222) C 1710 dL_law_222 rfl ?_
        cases h
        refine aw_sub [2, 3, 4, 5, 6] rfl ?_
        exact hk
      · replace h := ite_F h hc
        cases h
  · replace h := ite_F h hc
    cases h
noncomputable def L_law_j225 (xs : Nat → Int32) (L : Nat) (v4 : Int32) (μ : Mm) : Option Mm :=
  ck (v4 + 1) L <|
  ck (v4 + 2) L <|
  ck (v4 + 3) L <|
  bn (L_declare (xs ((v4 + 1) : Int32).toNatClampNeg) (xs ((v4 + 2) : Int32).toNatClampNeg) (if (xs ((v4 + 3) : Int32).toNatClampNeg) = 0 then (0 : Int32) else 1) μ) fun q24 μ25 =>
  ck (v4 + 1) L <|
  ck (v4 + 2) L <|
  ck (v4 + 3) L <|
  bn (X4_declare (xs ((v4 + 1) : Int32).toNatClampNeg) (xs ((v4 + 2) : Int32).toNatClampNeg) (if (xs ((v4 + 3) : Int32).toNatClampNeg) = 0 then (0 : Int32) else 1) μ25) fun q31 μ32 =>
  (X4_thrown μ32).bind fun q34 =>
  (if q34 = q24 then (if q24 = 0 then (if (lg_cmp (mOut μ32) (q31).toInt64) = 0 then some μ32 else none) else some μ32) else none)
theorem ok_L_law_j225 {l : Launch} {p : Program} {e : Env} {s : State} {m : MethodId} {args : Array Value} {below : List Frame} {meth : Method} {c : Code} {D : va_G} {cI cL : ClassId} {ad : Nat → Nat} {A : Nat → Prop} {Q : State → Prop} {bS cs sl : Nat} {ret9 : Option FieldType} (C : CX p l s m args meth c RL cL_law 9 ret9 D cI cL A) {r : Mm} {xs : Nat → Int32} {L : Nat} {v4 : Int32} (hex : NcX s ∧ va_X bS L xs s s.heap ∧ bS < s.heap.size ∧ ¬ A bS ∧ cs + 1 ≤ 1088 ∧ sl + 6 ≤ 13600) (hk : AW p l e room_1 s m args below meth c 9 D cI cL ad A (cs + 1) (sl + 6) Q 1710 [(0, .ref bS), (1, .ref (ad 0)), (2, .ref (ad 45)), (3, .ref (ad 54)), (4, .int v4)] [] r) {μ : Mm}  (h : L_law_j225 xs L v4 μ = some r) : AW p l e room_1 s m args below meth c 9 D cI cL ad A cs sl Q 225 [(0, .ref bS), (1, .ref (ad 0)), (2, .ref (ad 45)), (3, .ref (ad 54)), (4, .int v4)] [] μ := by
  unfold L_law_j225 at h
  refine aw_aload_n (pc := 225) C dL_law_225 rfl 1 rfl ?_
  refine aw_aload_n (pc := 226) C dL_law_226 rfl 0 rfl ?_
  refine aw_iload (pc := 227) C dL_law_227 4 rfl ?_
  refine aw_iconst (pc := 229) C (v := 1) dL_law_229 rfl ?_
  refine aw_iadd (pc := 230) C dL_law_230 ?_
  obtain ⟨g21, h⟩ := ck_some h
  refine aw_sld (pc := 231) C hex.2.1 hex.2.2.1 hex.2.2.2.1 g21 dL_law_231 ?_
  refine aw_aload_n (pc := 232) C dL_law_232 rfl 0 rfl ?_
  refine aw_iload (pc := 233) C dL_law_233 4 rfl ?_
  refine aw_iconst (pc := 235) C (v := 2) dL_law_235 rfl ?_
  refine aw_iadd (pc := 236) C dL_law_236 ?_
  obtain ⟨g22, h⟩ := ck_some h
  refine aw_sld (pc := 237) C hex.2.1 hex.2.2.1 hex.2.2.2.1 g22 dL_law_237 ?_
  refine aw_aload_n (pc := 238) C dL_law_238 rfl 0 rfl ?_
  refine aw_iload (pc := 239) C dL_law_239 4 rfl ?_
  refine aw_iconst (pc := 241) C (v := 3) dL_law_241 rfl ?_
  refine aw_iadd (pc := 242) C dL_law_242 ?_
  obtain ⟨g23, h⟩ := ck_some h
  refine aw_sld (pc := 243) C hex.2.1 hex.2.2.1 hex.2.2.2.1 g23 dL_law_243 ?_
  have kJ : AW p l e room_1 s m args below meth c 9 D cI cL ad A cs sl Q 252 [(0, .ref bS), (1, .ref (ad 0)), (2, .ref (ad 45)), (3, .ref (ad 54)), (4, .int v4)] [.int (if (xs ((v4 + 3) : Int32).toNatClampNeg) = 0 then (0 : Int32) else 1), .int (xs ((v4 + 2) : Int32).toNatClampNeg), .int (xs ((v4 + 1) : Int32).toNatClampNeg), .ref (ad 0)] μ := by
    refine aw_aload_n (pc := 252) C dL_law_252 rfl 3 rfl ?_
    obtain ⟨q24, μ25, hq26, h⟩ := bn_some h
    refine aw_W (pc := 253) (Bs := [.ref (ad 0), .int (xs ((v4 + 1) : Int32).toNatClampNeg), .int (xs ((v4 + 2) : Int32).toNatClampNeg), .int (if (xs ((v4 + 3) : Int32).toNatClampNeg) = 0 then (0 : Int32) else 1), .ref (ad 54)]) C hex.1 (ok_L_declare C.tr hq26) kw_L_declare q490 rfl rfl dL_law_253 ⟨(show 9 ≤ 15 by decide), (show 273 ≤ 578 by decide)⟩ ⟨hex.2.2.2.2.1, hex.2.2.2.2.2⟩ [] (Nat.le_of_ble_eq_true rfl) rfl ?_
    refine aw_istore (pc := 256) C (x := q24) (lv' := [(5, .int q24), (0, .ref bS), (1, .ref (ad 0)), (2, .ref (ad 45)), (3, .ref (ad 54)), (4, .int v4)]) dL_law_256 (by decide) rfl rfl ?_
    refine aw_aload_n (pc := 258) C dL_law_258 rfl 3 rfl ?_
    refine aw_aload_n (pc := 259) C dL_law_259 rfl 1 rfl ?_
    refine aw_iload (pc := 260) C dL_law_260 5 rfl ?_
    refine aw_iconst (pc := 262) C (v := 1) dL_law_262 rfl ?_
    refine aw_iadd (pc := 263) C dL_law_263 ?_
    obtain ⟨g27, h⟩ := ck_some h
    refine aw_sld (pc := 264) C hex.2.1 hex.2.2.1 hex.2.2.2.1 g27 dL_law_264 ?_
    refine aw_aload_n (pc := 265) C dL_law_265 rfl 1 rfl ?_
    refine aw_iload (pc := 266) C dL_law_266 5 rfl ?_
    refine aw_iconst (pc := 268) C (v := 2) dL_law_268 rfl ?_
    refine aw_iadd (pc := 269) C dL_law_269 ?_
    obtain ⟨g28, h⟩ := ck_some h
    refine aw_sld (pc := 270) C hex.2.1 hex.2.2.1 hex.2.2.2.1 g28 dL_law_270 ?_
    refine aw_aload_n (pc := 271) C dL_law_271 rfl 1 rfl ?_
    refine aw_iload (pc := 272) C dL_law_272 5 rfl ?_
    refine aw_iconst (pc := 274) C (v := 3) dL_law_274 rfl ?_
    refine aw_iadd (pc := 275) C dL_law_275 ?_
    obtain ⟨g29, h⟩ := ck_some h
    refine aw_sld (pc := 276) C hex.2.1 hex.2.2.1 hex.2.2.2.1 g29 dL_law_276 ?_
    have kJ : AW p l e room_1 s m args below meth c 9 D cI cL ad A (cs + 1) (sl + 6) Q 285 [(5, .int q24), (0, .ref bS), (1, .ref (ad 0)), (2, .ref (ad 45)), (3, .ref (ad 54)), (4, .int v4)] [.int (if (xs ((v4 + 3) : Int32).toNatClampNeg) = 0 then (0 : Int32) else 1), .int (xs ((v4 + 2) : Int32).toNatClampNeg), .int (xs ((v4 + 1) : Int32).toNatClampNeg), .ref (ad 45)] μ25 := by
      obtain ⟨q31, μ32, hq30, h⟩ := bn_some h
      refine aw_Vi (pc := 285) (a := 45) (Bs := [.int (xs ((v4 + 1) : Int32).toNatClampNeg), .int (xs ((v4 + 2) : Int32).toNatClampNeg), .int (if (xs ((v4 + 3) : Int32).toNatClampNeg) = 0 then (0 : Int32) else 1)]) C (ok_X4_declare C.tr hq30) kv_X4_declare q838 rfl rfl rfl rfl dL_law_285 ⟨(show 3 ≤ 15 by decide), (show 86 ≤ 578 by decide)⟩ ⟨(by have h9 := hex.2.2.2.2.1; show _ ≤ 1088; omega), (by have h9 := hex.2.2.2.2.2; show _ ≤ 13600; omega)⟩ [] (Nat.le_of_ble_eq_true rfl) rfl ?_
      refine aw_istore (pc := 288) C (x := q31) (lv' := [(6, .int q31), (5, .int q24), (0, .ref bS), (1, .ref (ad 0)), (2, .ref (ad 45)), (3, .ref (ad 54)), (4, .int v4)]) dL_law_288 (by decide) rfl rfl ?_
      refine aw_aload_n (pc := 290) C dL_law_290 rfl 4 rfl ?_
      obtain ⟨q34, hq33, h⟩ := bi_some h
      refine aw_Vi (pc := 291) (a := 45) (Bs := []) C (ok_X4_thrown C.tr hq33) kv_X4_thrown q819 rfl rfl rfl rfl dL_law_291 ⟨(show 1 ≤ 15 by decide), (show 20 ≤ 578 by decide)⟩ ⟨(by have h9 := hex.2.2.2.2.1; show _ ≤ 1088; omega), (by have h9 := hex.2.2.2.2.2; show _ ≤ 13600; omega)⟩ [] (Nat.le_of_ble_eq_true rfl) rfl ?_
      refine aw_iload (pc := 294) C dL_law_294 1 rfl ?_
      refine aw_icmp_eq (pc := 296) C 301 dL_law_296 rfl (fun hc => ?_) (fun hc => ?_)
      · replace h := ite_T h hc
        refine aw_iload (pc := 301) C dL_law_301 1 rfl ?_
        refine aw_if_ne (pc := 303) C 318 dL_law_303 rfl (fun hc => ?_) (fun hc => ?_)
        · replace h := ite_F h hc
          refine aw_goto (pc := 318) C 1710 dL_law_318 rfl ?_
          cases h
          refine aw_sub [2, 3, 4, 5, 6] rfl ?_
          exact hk
        · replace h := ite_T h hc
          refine aw_aload_n (pc := 306) C dL_law_306 rfl 5 rfl ?_
          refine aw_iconst (pc := 307) C (v := 0) dL_law_307 rfl ?_
          refine aw_laload (pc := 308) C (a := 54) (n := 1) rfl rfl dL_law_308 ?_
          refine aw_iload (pc := 309) C dL_law_309 0 rfl ?_
          refine aw_i2l (pc := 311) C dL_law_311 ?_
          refine aw_lcmp (pc := 312) C dL_law_312 ?_
          refine aw_if_eq (pc := 313) C 318 dL_law_313 rfl (fun hc => ?_) (fun hc => ?_)
          · replace h := ite_T h hc
            refine aw_goto (pc := 318) C 1710 dL_law_318 rfl ?_
            cases h
            refine aw_sub [2, 3, 4, 5, 6] rfl ?_
            exact hk
          · replace h := ite_F h hc
            cases h
      · replace h := ite_F h hc
        cases h
    refine aw_if_eq (pc := 277) C 284 dL_law_277 rfl (fun hd1 => ?_) (fun hd1 => ?_)
    · refine aw_iconst (pc := 284) C (v := 0) dL_law_284 rfl ?_
      rw [if_pos hd1] at kJ
      exact kJ
    · refine aw_iconst (pc := 280) C (v := 1) dL_law_280 rfl ?_
      refine aw_goto (pc := 281) C 285 dL_law_281 rfl ?_
      rw [if_neg hd1] at kJ
      exact kJ
  refine aw_if_eq (pc := 244) C 251 dL_law_244 rfl (fun hd1 => ?_) (fun hd1 => ?_)
  · refine aw_iconst (pc := 251) C (v := 0) dL_law_251 rfl ?_
    rw [if_pos hd1] at kJ
    exact kJ
  · refine aw_iconst (pc := 247) C (v := 1) dL_law_247 rfl ?_
    refine aw_goto (pc := 248) C 252 dL_law_248 rfl ?_
    rw [if_neg hd1] at kJ
    exact kJ
noncomputable def L_law_j321 (xs : Nat → Int32) (L : Nat) (v4 : Int32) (μ : Mm) : Option Mm :=
  ck (v4 + 1) L <|
  ck (v4 + 2) L <|
  ck (v4 + 3) L <|
  ck (v4 + 4) L <|
  ck (v4 + 5) L <|
  bn (L_importOne (xs ((v4 + 1) : Int32).toNatClampNeg) (xs ((v4 + 2) : Int32).toNatClampNeg) (xs ((v4 + 3) : Int32).toNatClampNeg) (xs ((v4 + 4) : Int32).toNatClampNeg) (if (xs ((v4 + 5) : Int32).toNatClampNeg) = 0 then (0 : Int32) else 1) μ) fun q41 μ42 =>
  ck (v4 + 1) L <|
  ck (v4 + 2) L <|
  ck (v4 + 3) L <|
  ck (v4 + 4) L <|
  ck (v4 + 5) L <|
  bn (X4_importOne (xs ((v4 + 1) : Int32).toNatClampNeg) (xs ((v4 + 2) : Int32).toNatClampNeg) (xs ((v4 + 3) : Int32).toNatClampNeg) (xs ((v4 + 4) : Int32).toNatClampNeg) (if (xs ((v4 + 5) : Int32).toNatClampNeg) = 0 then (0 : Int32) else 1) μ42) fun q50 μ51 =>
  (X4_thrown μ51).bind fun q53 =>
  (if q53 = q41 then (if q41 = 0 then (if (lg_cmp (mOut μ51) (q50).toInt64) = 0 then some μ51 else none) else some μ51) else none)
theorem ok_L_law_j321 {l : Launch} {p : Program} {e : Env} {s : State} {m : MethodId} {args : Array Value} {below : List Frame} {meth : Method} {c : Code} {D : va_G} {cI cL : ClassId} {ad : Nat → Nat} {A : Nat → Prop} {Q : State → Prop} {bS cs sl : Nat} {ret9 : Option FieldType} (C : CX p l s m args meth c RL cL_law 9 ret9 D cI cL A) {r : Mm} {xs : Nat → Int32} {L : Nat} {v4 : Int32} (hex : NcX s ∧ va_X bS L xs s s.heap ∧ bS < s.heap.size ∧ ¬ A bS ∧ cs + 1 ≤ 1088 ∧ sl + 6 ≤ 13600) (hk : AW p l e room_1 s m args below meth c 9 D cI cL ad A (cs + 1) (sl + 6) Q 1710 [(0, .ref bS), (1, .ref (ad 0)), (2, .ref (ad 45)), (3, .ref (ad 54)), (4, .int v4)] [] r) {μ : Mm}  (h : L_law_j321 xs L v4 μ = some r) : AW p l e room_1 s m args below meth c 9 D cI cL ad A cs sl Q 321 [(0, .ref bS), (1, .ref (ad 0)), (2, .ref (ad 45)), (3, .ref (ad 54)), (4, .int v4)] [] μ := by
  unfold L_law_j321 at h
  refine aw_aload_n (pc := 321) C dL_law_321 rfl 1 rfl ?_
  refine aw_aload_n (pc := 322) C dL_law_322 rfl 0 rfl ?_
  refine aw_iload (pc := 323) C dL_law_323 4 rfl ?_
  refine aw_iconst (pc := 325) C (v := 1) dL_law_325 rfl ?_
  refine aw_iadd (pc := 326) C dL_law_326 ?_
  obtain ⟨g36, h⟩ := ck_some h
  refine aw_sld (pc := 327) C hex.2.1 hex.2.2.1 hex.2.2.2.1 g36 dL_law_327 ?_
  refine aw_aload_n (pc := 328) C dL_law_328 rfl 0 rfl ?_
  refine aw_iload (pc := 329) C dL_law_329 4 rfl ?_
  refine aw_iconst (pc := 331) C (v := 2) dL_law_331 rfl ?_
  refine aw_iadd (pc := 332) C dL_law_332 ?_
  obtain ⟨g37, h⟩ := ck_some h
  refine aw_sld (pc := 333) C hex.2.1 hex.2.2.1 hex.2.2.2.1 g37 dL_law_333 ?_
  refine aw_aload_n (pc := 334) C dL_law_334 rfl 0 rfl ?_
  refine aw_iload (pc := 335) C dL_law_335 4 rfl ?_
  refine aw_iconst (pc := 337) C (v := 3) dL_law_337 rfl ?_
  refine aw_iadd (pc := 338) C dL_law_338 ?_
  obtain ⟨g38, h⟩ := ck_some h
  refine aw_sld (pc := 339) C hex.2.1 hex.2.2.1 hex.2.2.2.1 g38 dL_law_339 ?_
  refine aw_aload_n (pc := 340) C dL_law_340 rfl 0 rfl ?_
  refine aw_iload (pc := 341) C dL_law_341 4 rfl ?_
  refine aw_iconst (pc := 343) C (v := 4) dL_law_343 rfl ?_
  refine aw_iadd (pc := 344) C dL_law_344 ?_
  obtain ⟨g39, h⟩ := ck_some h
  refine aw_sld (pc := 345) C hex.2.1 hex.2.2.1 hex.2.2.2.1 g39 dL_law_345 ?_
  refine aw_aload_n (pc := 346) C dL_law_346 rfl 0 rfl ?_
  refine aw_iload (pc := 347) C dL_law_347 4 rfl ?_
  refine aw_iconst (pc := 349) C (v := 5) dL_law_349 rfl ?_
  refine aw_iadd (pc := 350) C dL_law_350 ?_
  obtain ⟨g40, h⟩ := ck_some h
  refine aw_sld (pc := 351) C hex.2.1 hex.2.2.1 hex.2.2.2.1 g40 dL_law_351 ?_
  have kJ : AW p l e room_1 s m args below meth c 9 D cI cL ad A cs sl Q 360 [(0, .ref bS), (1, .ref (ad 0)), (2, .ref (ad 45)), (3, .ref (ad 54)), (4, .int v4)] [.int (if (xs ((v4 + 5) : Int32).toNatClampNeg) = 0 then (0 : Int32) else 1), .int (xs ((v4 + 4) : Int32).toNatClampNeg), .int (xs ((v4 + 3) : Int32).toNatClampNeg), .int (xs ((v4 + 2) : Int32).toNatClampNeg), .int (xs ((v4 + 1) : Int32).toNatClampNeg), .ref (ad 0)] μ := by
    refine aw_aload_n (pc := 360) C dL_law_360 rfl 3 rfl ?_
    obtain ⟨q41, μ42, hq43, h⟩ := bn_some h
    refine aw_W (pc := 361) (Bs := [.ref (ad 0), .int (xs ((v4 + 1) : Int32).toNatClampNeg), .int (xs ((v4 + 2) : Int32).toNatClampNeg), .int (xs ((v4 + 3) : Int32).toNatClampNeg), .int (xs ((v4 + 4) : Int32).toNatClampNeg), .int (if (xs ((v4 + 5) : Int32).toNatClampNeg) = 0 then (0 : Int32) else 1), .ref (ad 54)]) C hex.1 (ok_L_importOne C.tr hq43) kw_L_importOne q513 rfl rfl dL_law_361 ⟨(show 9 ≤ 15 by decide), (show 275 ≤ 578 by decide)⟩ ⟨hex.2.2.2.2.1, hex.2.2.2.2.2⟩ [] (Nat.le_of_ble_eq_true rfl) rfl ?_
    refine aw_istore (pc := 364) C (x := q41) (lv' := [(5, .int q41), (0, .ref bS), (1, .ref (ad 0)), (2, .ref (ad 45)), (3, .ref (ad 54)), (4, .int v4)]) dL_law_364 (by decide) rfl rfl ?_
    refine aw_aload_n (pc := 366) C dL_law_366 rfl 3 rfl ?_
    refine aw_aload_n (pc := 367) C dL_law_367 rfl 1 rfl ?_
    refine aw_iload (pc := 368) C dL_law_368 5 rfl ?_
    refine aw_iconst (pc := 370) C (v := 1) dL_law_370 rfl ?_
    refine aw_iadd (pc := 371) C dL_law_371 ?_
    obtain ⟨g44, h⟩ := ck_some h
    refine aw_sld (pc := 372) C hex.2.1 hex.2.2.1 hex.2.2.2.1 g44 dL_law_372 ?_
    refine aw_aload_n (pc := 373) C dL_law_373 rfl 1 rfl ?_
    refine aw_iload (pc := 374) C dL_law_374 5 rfl ?_
    refine aw_iconst (pc := 376) C (v := 2) dL_law_376 rfl ?_
    refine aw_iadd (pc := 377) C dL_law_377 ?_
    obtain ⟨g45, h⟩ := ck_some h
    refine aw_sld (pc := 378) C hex.2.1 hex.2.2.1 hex.2.2.2.1 g45 dL_law_378 ?_
    refine aw_aload_n (pc := 379) C dL_law_379 rfl 1 rfl ?_
    refine aw_iload (pc := 380) C dL_law_380 5 rfl ?_
    refine aw_iconst (pc := 382) C (v := 3) dL_law_382 rfl ?_
    refine aw_iadd (pc := 383) C dL_law_383 ?_
    obtain ⟨g46, h⟩ := ck_some h
    refine aw_sld (pc := 384) C hex.2.1 hex.2.2.1 hex.2.2.2.1 g46 dL_law_384 ?_
    refine aw_aload_n (pc := 385) C dL_law_385 rfl 1 rfl ?_
    refine aw_iload (pc := 386) C dL_law_386 5 rfl ?_
    refine aw_iconst (pc := 388) C (v := 4) dL_law_388 rfl ?_
    refine aw_iadd (pc := 389) C dL_law_389 ?_
    obtain ⟨g47, h⟩ := ck_some h
    refine aw_sld (pc := 390) C hex.2.1 hex.2.2.1 hex.2.2.2.1 g47 dL_law_390 ?_
    refine aw_aload_n (pc := 391) C dL_law_391 rfl 1 rfl ?_
    refine aw_iload (pc := 392) C dL_law_392 5 rfl ?_
    refine aw_iconst (pc := 394) C (v := 5) dL_law_394 rfl ?_
    refine aw_iadd (pc := 395) C dL_law_395 ?_
    obtain ⟨g48, h⟩ := ck_some h
    refine aw_sld (pc := 396) C hex.2.1 hex.2.2.1 hex.2.2.2.1 g48 dL_law_396 ?_
    have kJ : AW p l e room_1 s m args below meth c 9 D cI cL ad A (cs + 1) (sl + 6) Q 405 [(5, .int q41), (0, .ref bS), (1, .ref (ad 0)), (2, .ref (ad 45)), (3, .ref (ad 54)), (4, .int v4)] [.int (if (xs ((v4 + 5) : Int32).toNatClampNeg) = 0 then (0 : Int32) else 1), .int (xs ((v4 + 4) : Int32).toNatClampNeg), .int (xs ((v4 + 3) : Int32).toNatClampNeg), .int (xs ((v4 + 2) : Int32).toNatClampNeg), .int (xs ((v4 + 1) : Int32).toNatClampNeg), .ref (ad 45)] μ42 := by
      obtain ⟨q50, μ51, hq49, h⟩ := bn_some h
      refine aw_Vi (pc := 405) (a := 45) (Bs := [.int (xs ((v4 + 1) : Int32).toNatClampNeg), .int (xs ((v4 + 2) : Int32).toNatClampNeg), .int (xs ((v4 + 3) : Int32).toNatClampNeg), .int (xs ((v4 + 4) : Int32).toNatClampNeg), .int (if (xs ((v4 + 5) : Int32).toNatClampNeg) = 0 then (0 : Int32) else 1)]) C (ok_X4_importOne C.tr hq49) kv_X4_importOne q853 rfl rfl rfl rfl dL_law_405 ⟨(show 4 ≤ 15 by decide), (show 118 ≤ 578 by decide)⟩ ⟨(by have h9 := hex.2.2.2.2.1; show _ ≤ 1088; omega), (by have h9 := hex.2.2.2.2.2; show _ ≤ 13600; omega)⟩ [] (Nat.le_of_ble_eq_true rfl) rfl ?_
      refine aw_istore (pc := 408) C (x := q50) (lv' := [(6, .int q50), (5, .int q41), (0, .ref bS), (1, .ref (ad 0)), (2, .ref (ad 45)), (3, .ref (ad 54)), (4, .int v4)]) dL_law_408 (by decide) rfl rfl ?_
      refine aw_aload_n (pc := 410) C dL_law_410 rfl 4 rfl ?_
      obtain ⟨q53, hq52, h⟩ := bi_some h
      refine aw_Vi (pc := 411) (a := 45) (Bs := []) C (ok_X4_thrown C.tr hq52) kv_X4_thrown q819 rfl rfl rfl rfl dL_law_411 ⟨(show 1 ≤ 15 by decide), (show 20 ≤ 578 by decide)⟩ ⟨(by have h9 := hex.2.2.2.2.1; show _ ≤ 1088; omega), (by have h9 := hex.2.2.2.2.2; show _ ≤ 13600; omega)⟩ [] (Nat.le_of_ble_eq_true rfl) rfl ?_
      refine aw_iload (pc := 414) C dL_law_414 1 rfl ?_
      refine aw_icmp_eq (pc := 416) C 421 dL_law_416 rfl (fun hc => ?_) (fun hc => ?_)
      · replace h := ite_T h hc
        refine aw_iload (pc := 421) C dL_law_421 1 rfl ?_
        refine aw_if_ne (pc := 423) C 438 dL_law_423 rfl (fun hc => ?_) (fun hc => ?_)
        · replace h := ite_F h hc
          refine aw_goto (pc := 438) C 1710 dL_law_438 rfl ?_
          cases h
          refine aw_sub [2, 3, 4, 5, 6] rfl ?_
          exact hk
        · replace h := ite_T h hc
          refine aw_aload_n (pc := 426) C dL_law_426 rfl 5 rfl ?_
          refine aw_iconst (pc := 427) C (v := 0) dL_law_427 rfl ?_
          refine aw_laload (pc := 428) C (a := 54) (n := 1) rfl rfl dL_law_428 ?_
          refine aw_iload (pc := 429) C dL_law_429 0 rfl ?_
          refine aw_i2l (pc := 431) C dL_law_431 ?_
          refine aw_lcmp (pc := 432) C dL_law_432 ?_
          refine aw_if_eq (pc := 433) C 438 dL_law_433 rfl (fun hc => ?_) (fun hc => ?_)
          · replace h := ite_T h hc
            refine aw_goto (pc := 438) C 1710 dL_law_438 rfl ?_
            cases h
            refine aw_sub [2, 3, 4, 5, 6] rfl ?_
            exact hk
          · replace h := ite_F h hc
            cases h
      · replace h := ite_F h hc
        cases h
    refine aw_if_eq (pc := 397) C 404 dL_law_397 rfl (fun hd1 => ?_) (fun hd1 => ?_)
    · refine aw_iconst (pc := 404) C (v := 0) dL_law_404 rfl ?_
      rw [if_pos hd1] at kJ
      exact kJ
    · refine aw_iconst (pc := 400) C (v := 1) dL_law_400 rfl ?_
      refine aw_goto (pc := 401) C 405 dL_law_401 rfl ?_
      rw [if_neg hd1] at kJ
      exact kJ
  refine aw_if_eq (pc := 352) C 359 dL_law_352 rfl (fun hd1 => ?_) (fun hd1 => ?_)
  · refine aw_iconst (pc := 359) C (v := 0) dL_law_359 rfl ?_
    rw [if_pos hd1] at kJ
    exact kJ
  · refine aw_iconst (pc := 355) C (v := 1) dL_law_355 rfl ?_
    refine aw_goto (pc := 356) C 360 dL_law_356 rfl ?_
    rw [if_neg hd1] at kJ
    exact kJ
noncomputable def L_law_j441 (xs : Nat → Int32) (L : Nat) (v4 : Int32) (μ : Mm) : Option Mm :=
  ck (v4 + 1) L <|
  ck (v4 + 2) L <|
  ck (v4 + 3) L <|
  ck (v4 + 4) L <|
  bn (L_importAll (xs ((v4 + 1) : Int32).toNatClampNeg) (xs ((v4 + 2) : Int32).toNatClampNeg) (xs ((v4 + 3) : Int32).toNatClampNeg) (if (xs ((v4 + 4) : Int32).toNatClampNeg) = 0 then (0 : Int32) else 1) μ) fun q59 μ60 =>
  ck (v4 + 1) L <|
  ck (v4 + 2) L <|
  ck (v4 + 3) L <|
  ck (v4 + 4) L <|
  bn (X4_importAll (xs ((v4 + 1) : Int32).toNatClampNeg) (xs ((v4 + 2) : Int32).toNatClampNeg) (xs ((v4 + 3) : Int32).toNatClampNeg) (if (xs ((v4 + 4) : Int32).toNatClampNeg) = 0 then (0 : Int32) else 1) μ60) fun q67 μ68 =>
  (X4_thrown μ68).bind fun q70 =>
  (if q70 = q59 then (if q59 = 0 then (if (lg_cmp (mOut μ68) (q67).toInt64) = 0 then some μ68 else none) else some μ68) else none)
theorem ok_L_law_j441 {l : Launch} {p : Program} {e : Env} {s : State} {m : MethodId} {args : Array Value} {below : List Frame} {meth : Method} {c : Code} {D : va_G} {cI cL : ClassId} {ad : Nat → Nat} {A : Nat → Prop} {Q : State → Prop} {bS cs sl : Nat} {ret9 : Option FieldType} (C : CX p l s m args meth c RL cL_law 9 ret9 D cI cL A) {r : Mm} {xs : Nat → Int32} {L : Nat} {v4 : Int32} (hex : NcX s ∧ va_X bS L xs s s.heap ∧ bS < s.heap.size ∧ ¬ A bS ∧ cs + 1 ≤ 1088 ∧ sl + 6 ≤ 13600) (hk : AW p l e room_1 s m args below meth c 9 D cI cL ad A (cs + 1) (sl + 6) Q 1710 [(0, .ref bS), (1, .ref (ad 0)), (2, .ref (ad 45)), (3, .ref (ad 54)), (4, .int v4)] [] r) {μ : Mm}  (h : L_law_j441 xs L v4 μ = some r) : AW p l e room_1 s m args below meth c 9 D cI cL ad A cs sl Q 441 [(0, .ref bS), (1, .ref (ad 0)), (2, .ref (ad 45)), (3, .ref (ad 54)), (4, .int v4)] [] μ := by
  unfold L_law_j441 at h
  refine aw_aload_n (pc := 441) C dL_law_441 rfl 1 rfl ?_
  refine aw_aload_n (pc := 442) C dL_law_442 rfl 0 rfl ?_
  refine aw_iload (pc := 443) C dL_law_443 4 rfl ?_
  refine aw_iconst (pc := 445) C (v := 1) dL_law_445 rfl ?_
  refine aw_iadd (pc := 446) C dL_law_446 ?_
  obtain ⟨g55, h⟩ := ck_some h
  refine aw_sld (pc := 447) C hex.2.1 hex.2.2.1 hex.2.2.2.1 g55 dL_law_447 ?_
  refine aw_aload_n (pc := 448) C dL_law_448 rfl 0 rfl ?_
  refine aw_iload (pc := 449) C dL_law_449 4 rfl ?_
  refine aw_iconst (pc := 451) C (v := 2) dL_law_451 rfl ?_
  refine aw_iadd (pc := 452) C dL_law_452 ?_
  obtain ⟨g56, h⟩ := ck_some h
  refine aw_sld (pc := 453) C hex.2.1 hex.2.2.1 hex.2.2.2.1 g56 dL_law_453 ?_
  refine aw_aload_n (pc := 454) C dL_law_454 rfl 0 rfl ?_
  refine aw_iload (pc := 455) C dL_law_455 4 rfl ?_
  refine aw_iconst (pc := 457) C (v := 3) dL_law_457 rfl ?_
  refine aw_iadd (pc := 458) C dL_law_458 ?_
  obtain ⟨g57, h⟩ := ck_some h
  refine aw_sld (pc := 459) C hex.2.1 hex.2.2.1 hex.2.2.2.1 g57 dL_law_459 ?_
  refine aw_aload_n (pc := 460) C dL_law_460 rfl 0 rfl ?_
  refine aw_iload (pc := 461) C dL_law_461 4 rfl ?_
  refine aw_iconst (pc := 463) C (v := 4) dL_law_463 rfl ?_
  refine aw_iadd (pc := 464) C dL_law_464 ?_
  obtain ⟨g58, h⟩ := ck_some h
  refine aw_sld (pc := 465) C hex.2.1 hex.2.2.1 hex.2.2.2.1 g58 dL_law_465 ?_
  have kJ : AW p l e room_1 s m args below meth c 9 D cI cL ad A cs sl Q 474 [(0, .ref bS), (1, .ref (ad 0)), (2, .ref (ad 45)), (3, .ref (ad 54)), (4, .int v4)] [.int (if (xs ((v4 + 4) : Int32).toNatClampNeg) = 0 then (0 : Int32) else 1), .int (xs ((v4 + 3) : Int32).toNatClampNeg), .int (xs ((v4 + 2) : Int32).toNatClampNeg), .int (xs ((v4 + 1) : Int32).toNatClampNeg), .ref (ad 0)] μ := by
    refine aw_aload_n (pc := 474) C dL_law_474 rfl 3 rfl ?_
    obtain ⟨q59, μ60, hq61, h⟩ := bn_some h
    refine aw_W (pc := 475) (Bs := [.ref (ad 0), .int (xs ((v4 + 1) : Int32).toNatClampNeg), .int (xs ((v4 + 2) : Int32).toNatClampNeg), .int (xs ((v4 + 3) : Int32).toNatClampNeg), .int (if (xs ((v4 + 4) : Int32).toNatClampNeg) = 0 then (0 : Int32) else 1), .ref (ad 54)]) C hex.1 (ok_L_importAll C.tr hq61) kw_L_importAll q529 rfl rfl dL_law_475 ⟨(show 9 ≤ 15 by decide), (show 274 ≤ 578 by decide)⟩ ⟨hex.2.2.2.2.1, hex.2.2.2.2.2⟩ [] (Nat.le_of_ble_eq_true rfl) rfl ?_
    refine aw_istore (pc := 478) C (x := q59) (lv' := [(5, .int q59), (0, .ref bS), (1, .ref (ad 0)), (2, .ref (ad 45)), (3, .ref (ad 54)), (4, .int v4)]) dL_law_478 (by decide) rfl rfl ?_
    refine aw_aload_n (pc := 480) C dL_law_480 rfl 3 rfl ?_
    refine aw_aload_n (pc := 481) C dL_law_481 rfl 1 rfl ?_
    refine aw_iload (pc := 482) C dL_law_482 5 rfl ?_
    refine aw_iconst (pc := 484) C (v := 1) dL_law_484 rfl ?_
    refine aw_iadd (pc := 485) C dL_law_485 ?_
    obtain ⟨g62, h⟩ := ck_some h
    refine aw_sld (pc := 486) C hex.2.1 hex.2.2.1 hex.2.2.2.1 g62 dL_law_486 ?_
    refine aw_aload_n (pc := 487) C dL_law_487 rfl 1 rfl ?_
    refine aw_iload (pc := 488) C dL_law_488 5 rfl ?_
    refine aw_iconst (pc := 490) C (v := 2) dL_law_490 rfl ?_
    refine aw_iadd (pc := 491) C dL_law_491 ?_
    obtain ⟨g63, h⟩ := ck_some h
    refine aw_sld (pc := 492) C hex.2.1 hex.2.2.1 hex.2.2.2.1 g63 dL_law_492 ?_
    refine aw_aload_n (pc := 493) C dL_law_493 rfl 1 rfl ?_
    refine aw_iload (pc := 494) C dL_law_494 5 rfl ?_
    refine aw_iconst (pc := 496) C (v := 3) dL_law_496 rfl ?_
    refine aw_iadd (pc := 497) C dL_law_497 ?_
    obtain ⟨g64, h⟩ := ck_some h
    refine aw_sld (pc := 498) C hex.2.1 hex.2.2.1 hex.2.2.2.1 g64 dL_law_498 ?_
    refine aw_aload_n (pc := 499) C dL_law_499 rfl 1 rfl ?_
    refine aw_iload (pc := 500) C dL_law_500 5 rfl ?_
    refine aw_iconst (pc := 502) C (v := 4) dL_law_502 rfl ?_
    refine aw_iadd (pc := 503) C dL_law_503 ?_
    obtain ⟨g65, h⟩ := ck_some h
    refine aw_sld (pc := 504) C hex.2.1 hex.2.2.1 hex.2.2.2.1 g65 dL_law_504 ?_
    have kJ : AW p l e room_1 s m args below meth c 9 D cI cL ad A (cs + 1) (sl + 6) Q 513 [(5, .int q59), (0, .ref bS), (1, .ref (ad 0)), (2, .ref (ad 45)), (3, .ref (ad 54)), (4, .int v4)] [.int (if (xs ((v4 + 4) : Int32).toNatClampNeg) = 0 then (0 : Int32) else 1), .int (xs ((v4 + 3) : Int32).toNatClampNeg), .int (xs ((v4 + 2) : Int32).toNatClampNeg), .int (xs ((v4 + 1) : Int32).toNatClampNeg), .ref (ad 45)] μ60 := by
      obtain ⟨q67, μ68, hq66, h⟩ := bn_some h
      refine aw_Vi (pc := 513) (a := 45) (Bs := [.int (xs ((v4 + 1) : Int32).toNatClampNeg), .int (xs ((v4 + 2) : Int32).toNatClampNeg), .int (xs ((v4 + 3) : Int32).toNatClampNeg), .int (if (xs ((v4 + 4) : Int32).toNatClampNeg) = 0 then (0 : Int32) else 1)]) C (ok_X4_importAll C.tr hq66) kv_X4_importAll q865 rfl rfl rfl rfl dL_law_513 ⟨(show 4 ≤ 15 by decide), (show 117 ≤ 578 by decide)⟩ ⟨(by have h9 := hex.2.2.2.2.1; show _ ≤ 1088; omega), (by have h9 := hex.2.2.2.2.2; show _ ≤ 13600; omega)⟩ [] (Nat.le_of_ble_eq_true rfl) rfl ?_
      refine aw_istore (pc := 516) C (x := q67) (lv' := [(6, .int q67), (5, .int q59), (0, .ref bS), (1, .ref (ad 0)), (2, .ref (ad 45)), (3, .ref (ad 54)), (4, .int v4)]) dL_law_516 (by decide) rfl rfl ?_
      refine aw_aload_n (pc := 518) C dL_law_518 rfl 4 rfl ?_
      obtain ⟨q70, hq69, h⟩ := bi_some h
      refine aw_Vi (pc := 519) (a := 45) (Bs := []) C (ok_X4_thrown C.tr hq69) kv_X4_thrown q819 rfl rfl rfl rfl dL_law_519 ⟨(show 1 ≤ 15 by decide), (show 20 ≤ 578 by decide)⟩ ⟨(by have h9 := hex.2.2.2.2.1; show _ ≤ 1088; omega), (by have h9 := hex.2.2.2.2.2; show _ ≤ 13600; omega)⟩ [] (Nat.le_of_ble_eq_true rfl) rfl ?_
      refine aw_iload (pc := 522) C dL_law_522 1 rfl ?_
      refine aw_icmp_eq (pc := 524) C 529 dL_law_524 rfl (fun hc => ?_) (fun hc => ?_)
      · replace h := ite_T h hc
        refine aw_iload (pc := 529) C dL_law_529 1 rfl ?_
        refine aw_if_ne (pc := 531) C 546 dL_law_531 rfl (fun hc => ?_) (fun hc => ?_)
        · replace h := ite_F h hc
          refine aw_goto (pc := 546) C 1710 dL_law_546 rfl ?_
          cases h
          refine aw_sub [2, 3, 4, 5, 6] rfl ?_
          exact hk
        · replace h := ite_T h hc
          refine aw_aload_n (pc := 534) C dL_law_534 rfl 5 rfl ?_
          refine aw_iconst (pc := 535) C (v := 0) dL_law_535 rfl ?_
          refine aw_laload (pc := 536) C (a := 54) (n := 1) rfl rfl dL_law_536 ?_
          refine aw_iload (pc := 537) C dL_law_537 0 rfl ?_
          refine aw_i2l (pc := 539) C dL_law_539 ?_
          refine aw_lcmp (pc := 540) C dL_law_540 ?_
          refine aw_if_eq (pc := 541) C 546 dL_law_541 rfl (fun hc => ?_) (fun hc => ?_)
          · replace h := ite_T h hc
            refine aw_goto (pc := 546) C 1710 dL_law_546 rfl ?_
            cases h
            refine aw_sub [2, 3, 4, 5, 6] rfl ?_
            exact hk
          · replace h := ite_F h hc
            cases h
      · replace h := ite_F h hc
        cases h
    refine aw_if_eq (pc := 505) C 512 dL_law_505 rfl (fun hd1 => ?_) (fun hd1 => ?_)
    · refine aw_iconst (pc := 512) C (v := 0) dL_law_512 rfl ?_
      rw [if_pos hd1] at kJ
      exact kJ
    · refine aw_iconst (pc := 508) C (v := 1) dL_law_508 rfl ?_
      refine aw_goto (pc := 509) C 513 dL_law_509 rfl ?_
      rw [if_neg hd1] at kJ
      exact kJ
  refine aw_if_eq (pc := 466) C 473 dL_law_466 rfl (fun hd1 => ?_) (fun hd1 => ?_)
  · refine aw_iconst (pc := 473) C (v := 0) dL_law_473 rfl ?_
    rw [if_pos hd1] at kJ
    exact kJ
  · refine aw_iconst (pc := 469) C (v := 1) dL_law_469 rfl ?_
    refine aw_goto (pc := 470) C 474 dL_law_470 rfl ?_
    rw [if_neg hd1] at kJ
    exact kJ
noncomputable def L_law_j549 (xs : Nat → Int32) (L : Nat) (v4 : Int32) (μ : Mm) : Option Mm :=
  ck (v4 + 1) L <|
  ck (v4 + 2) L <|
  bn (L_use (xs ((v4 + 1) : Int32).toNatClampNeg) (xs ((v4 + 2) : Int32).toNatClampNeg) μ) fun q74 μ75 =>
  ck (v4 + 1) L <|
  ck (v4 + 2) L <|
  bn (X4_use (xs ((v4 + 1) : Int32).toNatClampNeg) (xs ((v4 + 2) : Int32).toNatClampNeg) μ75) fun q80 μ81 =>
  (X4_thrown μ81).bind fun q83 =>
  (if q83 = q74 then (if q74 = 0 then (if (lg_cmp (mOut μ81) (q80).toInt64) = 0 then some μ81 else none) else some μ81) else none)
theorem ok_L_law_j549 {l : Launch} {p : Program} {e : Env} {s : State} {m : MethodId} {args : Array Value} {below : List Frame} {meth : Method} {c : Code} {D : va_G} {cI cL : ClassId} {ad : Nat → Nat} {A : Nat → Prop} {Q : State → Prop} {bS cs sl : Nat} {ret9 : Option FieldType} (C : CX p l s m args meth c RL cL_law 9 ret9 D cI cL A) {r : Mm} {xs : Nat → Int32} {L : Nat} {v4 : Int32} (hex : NcX s ∧ va_X bS L xs s s.heap ∧ bS < s.heap.size ∧ ¬ A bS ∧ cs + 1 ≤ 1088 ∧ sl + 6 ≤ 13600) (hk : AW p l e room_1 s m args below meth c 9 D cI cL ad A (cs + 1) (sl + 6) Q 1710 [(0, .ref bS), (1, .ref (ad 0)), (2, .ref (ad 45)), (3, .ref (ad 54)), (4, .int v4)] [] r) {μ : Mm}  (h : L_law_j549 xs L v4 μ = some r) : AW p l e room_1 s m args below meth c 9 D cI cL ad A cs sl Q 549 [(0, .ref bS), (1, .ref (ad 0)), (2, .ref (ad 45)), (3, .ref (ad 54)), (4, .int v4)] [] μ := by
  unfold L_law_j549 at h
  refine aw_aload_n (pc := 549) C dL_law_549 rfl 1 rfl ?_
  refine aw_aload_n (pc := 550) C dL_law_550 rfl 0 rfl ?_
  refine aw_iload (pc := 551) C dL_law_551 4 rfl ?_
  refine aw_iconst (pc := 553) C (v := 1) dL_law_553 rfl ?_
  refine aw_iadd (pc := 554) C dL_law_554 ?_
  obtain ⟨g72, h⟩ := ck_some h
  refine aw_sld (pc := 555) C hex.2.1 hex.2.2.1 hex.2.2.2.1 g72 dL_law_555 ?_
  refine aw_aload_n (pc := 556) C dL_law_556 rfl 0 rfl ?_
  refine aw_iload (pc := 557) C dL_law_557 4 rfl ?_
  refine aw_iconst (pc := 559) C (v := 2) dL_law_559 rfl ?_
  refine aw_iadd (pc := 560) C dL_law_560 ?_
  obtain ⟨g73, h⟩ := ck_some h
  refine aw_sld (pc := 561) C hex.2.1 hex.2.2.1 hex.2.2.2.1 g73 dL_law_561 ?_
  refine aw_aload_n (pc := 562) C dL_law_562 rfl 3 rfl ?_
  obtain ⟨q74, μ75, hq76, h⟩ := bn_some h
  refine aw_W (pc := 563) (Bs := [.ref (ad 0), .int (xs ((v4 + 1) : Int32).toNatClampNeg), .int (xs ((v4 + 2) : Int32).toNatClampNeg), .ref (ad 54)]) C hex.1 (ok_L_use C.tr hq76) kw_L_use q537 rfl rfl dL_law_563 ⟨(show 9 ≤ 15 by decide), (show 272 ≤ 578 by decide)⟩ ⟨hex.2.2.2.2.1, hex.2.2.2.2.2⟩ [] (Nat.le_of_ble_eq_true rfl) rfl ?_
  refine aw_istore (pc := 566) C (x := q74) (lv' := [(5, .int q74), (0, .ref bS), (1, .ref (ad 0)), (2, .ref (ad 45)), (3, .ref (ad 54)), (4, .int v4)]) dL_law_566 (by decide) rfl rfl ?_
  refine aw_aload_n (pc := 568) C dL_law_568 rfl 3 rfl ?_
  refine aw_aload_n (pc := 569) C dL_law_569 rfl 1 rfl ?_
  refine aw_iload (pc := 570) C dL_law_570 5 rfl ?_
  refine aw_iconst (pc := 572) C (v := 1) dL_law_572 rfl ?_
  refine aw_iadd (pc := 573) C dL_law_573 ?_
  obtain ⟨g77, h⟩ := ck_some h
  refine aw_sld (pc := 574) C hex.2.1 hex.2.2.1 hex.2.2.2.1 g77 dL_law_574 ?_
  refine aw_aload_n (pc := 575) C dL_law_575 rfl 1 rfl ?_
  refine aw_iload (pc := 576) C dL_law_576 5 rfl ?_
  refine aw_iconst (pc := 578) C (v := 2) dL_law_578 rfl ?_
  refine aw_iadd (pc := 579) C dL_law_579 ?_
  obtain ⟨g78, h⟩ := ck_some h
  refine aw_sld (pc := 580) C hex.2.1 hex.2.2.1 hex.2.2.2.1 g78 dL_law_580 ?_
  obtain ⟨q80, μ81, hq79, h⟩ := bn_some h
  refine aw_Vi (pc := 581) (a := 45) (Bs := [.int (xs ((v4 + 1) : Int32).toNatClampNeg), .int (xs ((v4 + 2) : Int32).toNatClampNeg)]) C (ok_X4_use C.tr hq79) kv_X4_use q870 rfl rfl rfl rfl dL_law_581 ⟨(show 3 ≤ 15 by decide), (show 84 ≤ 578 by decide)⟩ ⟨(by have h9 := hex.2.2.2.2.1; show _ ≤ 1088; omega), (by have h9 := hex.2.2.2.2.2; show _ ≤ 13600; omega)⟩ [] (Nat.le_of_ble_eq_true rfl) rfl ?_
  refine aw_istore (pc := 584) C (x := q80) (lv' := [(6, .int q80), (5, .int q74), (0, .ref bS), (1, .ref (ad 0)), (2, .ref (ad 45)), (3, .ref (ad 54)), (4, .int v4)]) dL_law_584 (by decide) rfl rfl ?_
  refine aw_aload_n (pc := 586) C dL_law_586 rfl 4 rfl ?_
  obtain ⟨q83, hq82, h⟩ := bi_some h
  refine aw_Vi (pc := 587) (a := 45) (Bs := []) C (ok_X4_thrown C.tr hq82) kv_X4_thrown q819 rfl rfl rfl rfl dL_law_587 ⟨(show 1 ≤ 15 by decide), (show 20 ≤ 578 by decide)⟩ ⟨(by have h9 := hex.2.2.2.2.1; show _ ≤ 1088; omega), (by have h9 := hex.2.2.2.2.2; show _ ≤ 13600; omega)⟩ [] (Nat.le_of_ble_eq_true rfl) rfl ?_
  refine aw_iload (pc := 590) C dL_law_590 1 rfl ?_
  refine aw_icmp_eq (pc := 592) C 597 dL_law_592 rfl (fun hc => ?_) (fun hc => ?_)
  · replace h := ite_T h hc
    refine aw_iload (pc := 597) C dL_law_597 1 rfl ?_
    refine aw_if_ne (pc := 599) C 614 dL_law_599 rfl (fun hc => ?_) (fun hc => ?_)
    · replace h := ite_F h hc
      refine aw_goto (pc := 614) C 1710 dL_law_614 rfl ?_
      cases h
      refine aw_sub [2, 3, 4, 5, 6] rfl ?_
      exact hk
    · replace h := ite_T h hc
      refine aw_aload_n (pc := 602) C dL_law_602 rfl 5 rfl ?_
      refine aw_iconst (pc := 603) C (v := 0) dL_law_603 rfl ?_
      refine aw_laload (pc := 604) C (a := 54) (n := 1) rfl rfl dL_law_604 ?_
      refine aw_iload (pc := 605) C dL_law_605 0 rfl ?_
      refine aw_i2l (pc := 607) C dL_law_607 ?_
      refine aw_lcmp (pc := 608) C dL_law_608 ?_
      refine aw_if_eq (pc := 609) C 614 dL_law_609 rfl (fun hc => ?_) (fun hc => ?_)
      · replace h := ite_T h hc
        refine aw_goto (pc := 614) C 1710 dL_law_614 rfl ?_
        cases h
        refine aw_sub [2, 3, 4, 5, 6] rfl ?_
        exact hk
      · replace h := ite_F h hc
        cases h
  · replace h := ite_F h hc
    cases h
noncomputable def L_law_j617 (xs : Nat → Int32) (L : Nat) (v4 : Int32) (μ : Mm) : Option Mm :=
  ck (v4 + 1) L <|
  ck (v4 + 2) L <|
  bn (L_remove (xs ((v4 + 1) : Int32).toNatClampNeg) (xs ((v4 + 2) : Int32).toNatClampNeg) μ) fun q87 μ88 =>
  ck (v4 + 1) L <|
  ck (v4 + 2) L <|
  bn (X4_remove (xs ((v4 + 1) : Int32).toNatClampNeg) (xs ((v4 + 2) : Int32).toNatClampNeg) μ88) fun q93 μ94 =>
  (X4_thrown μ94).bind fun q96 =>
  (if q96 = q87 then (if q87 = 0 then (if (lg_cmp (mOut μ94) (q93).toInt64) = 0 then some μ94 else none) else some μ94) else none)
theorem ok_L_law_j617 {l : Launch} {p : Program} {e : Env} {s : State} {m : MethodId} {args : Array Value} {below : List Frame} {meth : Method} {c : Code} {D : va_G} {cI cL : ClassId} {ad : Nat → Nat} {A : Nat → Prop} {Q : State → Prop} {bS cs sl : Nat} {ret9 : Option FieldType} (C : CX p l s m args meth c RL cL_law 9 ret9 D cI cL A) {r : Mm} {xs : Nat → Int32} {L : Nat} {v4 : Int32} (hex : NcX s ∧ va_X bS L xs s s.heap ∧ bS < s.heap.size ∧ ¬ A bS ∧ cs + 1 ≤ 1088 ∧ sl + 6 ≤ 13600) (hk : AW p l e room_1 s m args below meth c 9 D cI cL ad A (cs + 1) (sl + 6) Q 1710 [(0, .ref bS), (1, .ref (ad 0)), (2, .ref (ad 45)), (3, .ref (ad 54)), (4, .int v4)] [] r) {μ : Mm}  (h : L_law_j617 xs L v4 μ = some r) : AW p l e room_1 s m args below meth c 9 D cI cL ad A cs sl Q 617 [(0, .ref bS), (1, .ref (ad 0)), (2, .ref (ad 45)), (3, .ref (ad 54)), (4, .int v4)] [] μ := by
  unfold L_law_j617 at h
  refine aw_aload_n (pc := 617) C dL_law_617 rfl 1 rfl ?_
  refine aw_aload_n (pc := 618) C dL_law_618 rfl 0 rfl ?_
  refine aw_iload (pc := 619) C dL_law_619 4 rfl ?_
  refine aw_iconst (pc := 621) C (v := 1) dL_law_621 rfl ?_
  refine aw_iadd (pc := 622) C dL_law_622 ?_
  obtain ⟨g85, h⟩ := ck_some h
  refine aw_sld (pc := 623) C hex.2.1 hex.2.2.1 hex.2.2.2.1 g85 dL_law_623 ?_
  refine aw_aload_n (pc := 624) C dL_law_624 rfl 0 rfl ?_
  refine aw_iload (pc := 625) C dL_law_625 4 rfl ?_
  refine aw_iconst (pc := 627) C (v := 2) dL_law_627 rfl ?_
  refine aw_iadd (pc := 628) C dL_law_628 ?_
  obtain ⟨g86, h⟩ := ck_some h
  refine aw_sld (pc := 629) C hex.2.1 hex.2.2.1 hex.2.2.2.1 g86 dL_law_629 ?_
  refine aw_aload_n (pc := 630) C dL_law_630 rfl 3 rfl ?_
  obtain ⟨q87, μ88, hq89, h⟩ := bn_some h
  refine aw_W (pc := 631) (Bs := [.ref (ad 0), .int (xs ((v4 + 1) : Int32).toNatClampNeg), .int (xs ((v4 + 2) : Int32).toNatClampNeg), .ref (ad 54)]) C hex.1 (ok_L_remove C.tr hq89) kw_L_remove q552 rfl rfl dL_law_631 ⟨(show 9 ≤ 15 by decide), (show 272 ≤ 578 by decide)⟩ ⟨hex.2.2.2.2.1, hex.2.2.2.2.2⟩ [] (Nat.le_of_ble_eq_true rfl) rfl ?_
  refine aw_istore (pc := 634) C (x := q87) (lv' := [(5, .int q87), (0, .ref bS), (1, .ref (ad 0)), (2, .ref (ad 45)), (3, .ref (ad 54)), (4, .int v4)]) dL_law_634 (by decide) rfl rfl ?_
  refine aw_aload_n (pc := 636) C dL_law_636 rfl 3 rfl ?_
  refine aw_aload_n (pc := 637) C dL_law_637 rfl 1 rfl ?_
  refine aw_iload (pc := 638) C dL_law_638 5 rfl ?_
  refine aw_iconst (pc := 640) C (v := 1) dL_law_640 rfl ?_
  refine aw_iadd (pc := 641) C dL_law_641 ?_
  obtain ⟨g90, h⟩ := ck_some h
  refine aw_sld (pc := 642) C hex.2.1 hex.2.2.1 hex.2.2.2.1 g90 dL_law_642 ?_
  refine aw_aload_n (pc := 643) C dL_law_643 rfl 1 rfl ?_
  refine aw_iload (pc := 644) C dL_law_644 5 rfl ?_
  refine aw_iconst (pc := 646) C (v := 2) dL_law_646 rfl ?_
  refine aw_iadd (pc := 647) C dL_law_647 ?_
  obtain ⟨g91, h⟩ := ck_some h
  refine aw_sld (pc := 648) C hex.2.1 hex.2.2.1 hex.2.2.2.1 g91 dL_law_648 ?_
  obtain ⟨q93, μ94, hq92, h⟩ := bn_some h
  refine aw_Vi (pc := 649) (a := 45) (Bs := [.int (xs ((v4 + 1) : Int32).toNatClampNeg), .int (xs ((v4 + 2) : Int32).toNatClampNeg)]) C (ok_X4_remove C.tr hq92) kv_X4_remove q874 rfl rfl rfl rfl dL_law_649 ⟨(show 11 ≤ 15 by decide), (show 332 ≤ 578 by decide)⟩ ⟨(by have h9 := hex.2.2.2.2.1; show _ ≤ 1088; omega), (by have h9 := hex.2.2.2.2.2; show _ ≤ 13600; omega)⟩ [] (Nat.le_of_ble_eq_true rfl) rfl ?_
  refine aw_istore (pc := 652) C (x := q93) (lv' := [(6, .int q93), (5, .int q87), (0, .ref bS), (1, .ref (ad 0)), (2, .ref (ad 45)), (3, .ref (ad 54)), (4, .int v4)]) dL_law_652 (by decide) rfl rfl ?_
  refine aw_aload_n (pc := 654) C dL_law_654 rfl 4 rfl ?_
  obtain ⟨q96, hq95, h⟩ := bi_some h
  refine aw_Vi (pc := 655) (a := 45) (Bs := []) C (ok_X4_thrown C.tr hq95) kv_X4_thrown q819 rfl rfl rfl rfl dL_law_655 ⟨(show 1 ≤ 15 by decide), (show 20 ≤ 578 by decide)⟩ ⟨(by have h9 := hex.2.2.2.2.1; show _ ≤ 1088; omega), (by have h9 := hex.2.2.2.2.2; show _ ≤ 13600; omega)⟩ [] (Nat.le_of_ble_eq_true rfl) rfl ?_
  refine aw_iload (pc := 658) C dL_law_658 1 rfl ?_
  refine aw_icmp_eq (pc := 660) C 665 dL_law_660 rfl (fun hc => ?_) (fun hc => ?_)
  · replace h := ite_T h hc
    refine aw_iload (pc := 665) C dL_law_665 1 rfl ?_
    refine aw_if_ne (pc := 667) C 682 dL_law_667 rfl (fun hc => ?_) (fun hc => ?_)
    · replace h := ite_F h hc
      refine aw_goto (pc := 682) C 1710 dL_law_682 rfl ?_
      cases h
      refine aw_sub [2, 3, 4, 5, 6] rfl ?_
      exact hk
    · replace h := ite_T h hc
      refine aw_aload_n (pc := 670) C dL_law_670 rfl 5 rfl ?_
      refine aw_iconst (pc := 671) C (v := 0) dL_law_671 rfl ?_
      refine aw_laload (pc := 672) C (a := 54) (n := 1) rfl rfl dL_law_672 ?_
      refine aw_iload (pc := 673) C dL_law_673 0 rfl ?_
      refine aw_i2l (pc := 675) C dL_law_675 ?_
      refine aw_lcmp (pc := 676) C dL_law_676 ?_
      refine aw_if_eq (pc := 677) C 682 dL_law_677 rfl (fun hc => ?_) (fun hc => ?_)
      · replace h := ite_T h hc
        refine aw_goto (pc := 682) C 1710 dL_law_682 rfl ?_
        cases h
        refine aw_sub [2, 3, 4, 5, 6] rfl ?_
        exact hk
      · replace h := ite_F h hc
        cases h
  · replace h := ite_F h hc
    cases h
noncomputable def L_law_j685 (xs : Nat → Int32) (L : Nat) (v4 : Int32) (μ : Mm) : Option Mm :=
  ck (v4 + 1) L <|
  bn (L_append (xs ((v4 + 1) : Int32).toNatClampNeg) μ) fun q99 μ100 =>
  ck (v4 + 1) L <|
  bn (X4_append (xs ((v4 + 1) : Int32).toNatClampNeg) μ100) fun q104 μ105 =>
  (X4_thrown μ105).bind fun q107 =>
  (if q107 = q99 then (if q99 = 0 then (if (lg_cmp (mOut μ105) (q104).toInt64) = 0 then some μ105 else none) else some μ105) else none)
theorem ok_L_law_j685 {l : Launch} {p : Program} {e : Env} {s : State} {m : MethodId} {args : Array Value} {below : List Frame} {meth : Method} {c : Code} {D : va_G} {cI cL : ClassId} {ad : Nat → Nat} {A : Nat → Prop} {Q : State → Prop} {bS cs sl : Nat} {ret9 : Option FieldType} (C : CX p l s m args meth c RL cL_law 9 ret9 D cI cL A) {r : Mm} {xs : Nat → Int32} {L : Nat} {v4 : Int32} (hex : NcX s ∧ va_X bS L xs s s.heap ∧ bS < s.heap.size ∧ ¬ A bS ∧ cs + 1 ≤ 1088 ∧ sl + 6 ≤ 13600) (hk : AW p l e room_1 s m args below meth c 9 D cI cL ad A (cs + 1) (sl + 6) Q 1710 [(0, .ref bS), (1, .ref (ad 0)), (2, .ref (ad 45)), (3, .ref (ad 54)), (4, .int v4)] [] r) {μ : Mm}  (h : L_law_j685 xs L v4 μ = some r) : AW p l e room_1 s m args below meth c 9 D cI cL ad A cs sl Q 685 [(0, .ref bS), (1, .ref (ad 0)), (2, .ref (ad 45)), (3, .ref (ad 54)), (4, .int v4)] [] μ := by
  unfold L_law_j685 at h
  refine aw_aload_n (pc := 685) C dL_law_685 rfl 1 rfl ?_
  refine aw_aload_n (pc := 686) C dL_law_686 rfl 0 rfl ?_
  refine aw_iload (pc := 687) C dL_law_687 4 rfl ?_
  refine aw_iconst (pc := 689) C (v := 1) dL_law_689 rfl ?_
  refine aw_iadd (pc := 690) C dL_law_690 ?_
  obtain ⟨g98, h⟩ := ck_some h
  refine aw_sld (pc := 691) C hex.2.1 hex.2.2.1 hex.2.2.2.1 g98 dL_law_691 ?_
  refine aw_aload_n (pc := 692) C dL_law_692 rfl 3 rfl ?_
  obtain ⟨q99, μ100, hq101, h⟩ := bn_some h
  refine aw_W (pc := 693) (Bs := [.ref (ad 0), .int (xs ((v4 + 1) : Int32).toNatClampNeg), .ref (ad 54)]) C hex.1 (ok_L_append C.tr hq101) kw_L_append q579 rfl rfl dL_law_693 ⟨(show 8 ≤ 15 by decide), (show 240 ≤ 578 by decide)⟩ ⟨hex.2.2.2.2.1, hex.2.2.2.2.2⟩ [] (Nat.le_of_ble_eq_true rfl) rfl ?_
  refine aw_istore (pc := 696) C (x := q99) (lv' := [(5, .int q99), (0, .ref bS), (1, .ref (ad 0)), (2, .ref (ad 45)), (3, .ref (ad 54)), (4, .int v4)]) dL_law_696 (by decide) rfl rfl ?_
  refine aw_aload_n (pc := 698) C dL_law_698 rfl 3 rfl ?_
  refine aw_aload_n (pc := 699) C dL_law_699 rfl 1 rfl ?_
  refine aw_iload (pc := 700) C dL_law_700 5 rfl ?_
  refine aw_iconst (pc := 702) C (v := 1) dL_law_702 rfl ?_
  refine aw_iadd (pc := 703) C dL_law_703 ?_
  obtain ⟨g102, h⟩ := ck_some h
  refine aw_sld (pc := 704) C hex.2.1 hex.2.2.1 hex.2.2.2.1 g102 dL_law_704 ?_
  obtain ⟨q104, μ105, hq103, h⟩ := bn_some h
  refine aw_Vi (pc := 705) (a := 45) (Bs := [.int (xs ((v4 + 1) : Int32).toNatClampNeg)]) C (ok_X4_append C.tr hq103) kv_X4_append q945 rfl rfl rfl rfl dL_law_705 ⟨(show 2 ≤ 15 by decide), (show 52 ≤ 578 by decide)⟩ ⟨(by have h9 := hex.2.2.2.2.1; show _ ≤ 1088; omega), (by have h9 := hex.2.2.2.2.2; show _ ≤ 13600; omega)⟩ [] (Nat.le_of_ble_eq_true rfl) rfl ?_
  refine aw_istore (pc := 708) C (x := q104) (lv' := [(6, .int q104), (5, .int q99), (0, .ref bS), (1, .ref (ad 0)), (2, .ref (ad 45)), (3, .ref (ad 54)), (4, .int v4)]) dL_law_708 (by decide) rfl rfl ?_
  refine aw_aload_n (pc := 710) C dL_law_710 rfl 4 rfl ?_
  obtain ⟨q107, hq106, h⟩ := bi_some h
  refine aw_Vi (pc := 711) (a := 45) (Bs := []) C (ok_X4_thrown C.tr hq106) kv_X4_thrown q819 rfl rfl rfl rfl dL_law_711 ⟨(show 1 ≤ 15 by decide), (show 20 ≤ 578 by decide)⟩ ⟨(by have h9 := hex.2.2.2.2.1; show _ ≤ 1088; omega), (by have h9 := hex.2.2.2.2.2; show _ ≤ 13600; omega)⟩ [] (Nat.le_of_ble_eq_true rfl) rfl ?_
  refine aw_iload (pc := 714) C dL_law_714 1 rfl ?_
  refine aw_icmp_eq (pc := 716) C 721 dL_law_716 rfl (fun hc => ?_) (fun hc => ?_)
  · replace h := ite_T h hc
    refine aw_iload (pc := 721) C dL_law_721 1 rfl ?_
    refine aw_if_ne (pc := 723) C 738 dL_law_723 rfl (fun hc => ?_) (fun hc => ?_)
    · replace h := ite_F h hc
      refine aw_goto (pc := 738) C 1710 dL_law_738 rfl ?_
      cases h
      refine aw_sub [2, 3, 4, 5, 6] rfl ?_
      exact hk
    · replace h := ite_T h hc
      refine aw_aload_n (pc := 726) C dL_law_726 rfl 5 rfl ?_
      refine aw_iconst (pc := 727) C (v := 0) dL_law_727 rfl ?_
      refine aw_laload (pc := 728) C (a := 54) (n := 1) rfl rfl dL_law_728 ?_
      refine aw_iload (pc := 729) C dL_law_729 0 rfl ?_
      refine aw_i2l (pc := 731) C dL_law_731 ?_
      refine aw_lcmp (pc := 732) C dL_law_732 ?_
      refine aw_if_eq (pc := 733) C 738 dL_law_733 rfl (fun hc => ?_) (fun hc => ?_)
      · replace h := ite_T h hc
        refine aw_goto (pc := 738) C 1710 dL_law_738 rfl ?_
        cases h
        refine aw_sub [2, 3, 4, 5, 6] rfl ?_
        exact hk
      · replace h := ite_F h hc
        cases h
  · replace h := ite_F h hc
    cases h
noncomputable def L_law_j741 (xs : Nat → Int32) (L : Nat) (v4 : Int32) (μ : Mm) : Option Mm :=
  bn (X3_clearBuffer μ) fun q110 μ111 =>
  bn (X4_clearBuffer μ111) fun q113 μ114 =>
  (if q110 = q113 then some μ114 else none)
theorem ok_L_law_j741 {l : Launch} {p : Program} {e : Env} {s : State} {m : MethodId} {args : Array Value} {below : List Frame} {meth : Method} {c : Code} {D : va_G} {cI cL : ClassId} {ad : Nat → Nat} {A : Nat → Prop} {Q : State → Prop} {bS cs sl : Nat} {ret9 : Option FieldType} (C : CX p l s m args meth c RL cL_law 9 ret9 D cI cL A) {r : Mm} {xs : Nat → Int32} {L : Nat} {v4 : Int32} (hex : NcX s ∧ va_X bS L xs s s.heap ∧ bS < s.heap.size ∧ ¬ A bS ∧ cs + 1 ≤ 1088 ∧ sl + 6 ≤ 13600) (hk : AW p l e room_1 s m args below meth c 9 D cI cL ad A (cs + 1) (sl + 6) Q 1710 [(0, .ref bS), (1, .ref (ad 0)), (2, .ref (ad 45)), (3, .ref (ad 54)), (4, .int v4)] [] r) {μ : Mm}  (h : L_law_j741 xs L v4 μ = some r) : AW p l e room_1 s m args below meth c 9 D cI cL ad A cs sl Q 741 [(0, .ref bS), (1, .ref (ad 0)), (2, .ref (ad 45)), (3, .ref (ad 54)), (4, .int v4)] [] μ := by
  unfold L_law_j741 at h
  refine aw_aload_n (pc := 741) C dL_law_741 rfl 1 rfl ?_
  obtain ⟨q110, μ111, hq109, h⟩ := bn_some h
  refine aw_Vi (pc := 742) (a := 0) (Bs := []) C (ok_X3_clearBuffer C.tr hq109) kv_X3_clearBuffer q207 rfl rfl rfl rfl dL_law_742 ⟨(show 1 ≤ 15 by decide), (show 21 ≤ 578 by decide)⟩ ⟨(by have h9 := hex.2.2.2.2.1; show _ ≤ 1088; omega), (by have h9 := hex.2.2.2.2.2; show _ ≤ 13600; omega)⟩ [] (Nat.le_of_ble_eq_true rfl) rfl ?_
  refine aw_aload_n (pc := 745) C dL_law_745 rfl 2 rfl ?_
  obtain ⟨q113, μ114, hq112, h⟩ := bn_some h
  refine aw_Vi (pc := 746) (a := 45) (Bs := []) C (ok_X4_clearBuffer C.tr hq112) kv_X4_clearBuffer q949 rfl rfl rfl rfl dL_law_746 ⟨(show 1 ≤ 15 by decide), (show 21 ≤ 578 by decide)⟩ ⟨(by have h9 := hex.2.2.2.2.1; show _ ≤ 1088; omega), (by have h9 := hex.2.2.2.2.2; show _ ≤ 13600; omega)⟩ [.int q110] (Nat.le_of_ble_eq_true rfl) rfl ?_
  refine aw_icmp_eq (pc := 749) C 1710 dL_law_749 rfl (fun hc => ?_) (fun hc => ?_)
  · replace h := ite_T h hc
    cases h
    refine aw_sub [0, 1, 2, 3, 4] rfl ?_
    exact aw_widen (cs + 1) (sl + 6) (Nat.le_succ _) (Nat.le_add_right _ _) hk
  · replace h := ite_F h hc
    cases h
noncomputable def L_law_j754 (xs : Nat → Int32) (L : Nat) (v4 : Int32) (μ : Mm) : Option Mm :=
  (X3_firstError μ).bind fun q117 =>
  bn (X4_firstError μ) fun q119 μ120 =>
  (if q117 = q119 then some μ120 else none)
theorem ok_L_law_j754 {l : Launch} {p : Program} {e : Env} {s : State} {m : MethodId} {args : Array Value} {below : List Frame} {meth : Method} {c : Code} {D : va_G} {cI cL : ClassId} {ad : Nat → Nat} {A : Nat → Prop} {Q : State → Prop} {bS cs sl : Nat} {ret9 : Option FieldType} (C : CX p l s m args meth c RL cL_law 9 ret9 D cI cL A) {r : Mm} {xs : Nat → Int32} {L : Nat} {v4 : Int32} (hex : NcX s ∧ va_X bS L xs s s.heap ∧ bS < s.heap.size ∧ ¬ A bS ∧ cs + 1 ≤ 1088 ∧ sl + 6 ≤ 13600) (hk : AW p l e room_1 s m args below meth c 9 D cI cL ad A (cs + 1) (sl + 6) Q 1710 [(0, .ref bS), (1, .ref (ad 0)), (2, .ref (ad 45)), (3, .ref (ad 54)), (4, .int v4)] [] r) {μ : Mm}  (h : L_law_j754 xs L v4 μ = some r) : AW p l e room_1 s m args below meth c 9 D cI cL ad A cs sl Q 754 [(0, .ref bS), (1, .ref (ad 0)), (2, .ref (ad 45)), (3, .ref (ad 54)), (4, .int v4)] [] μ := by
  unfold L_law_j754 at h
  refine aw_aload_n (pc := 754) C dL_law_754 rfl 1 rfl ?_
  obtain ⟨q117, hq116, h⟩ := bi_some h
  refine aw_Vi (pc := 755) (a := 0) (Bs := []) C (ok_X3_firstError C.tr hq116) kv_X3_firstError q211 rfl rfl rfl rfl dL_law_755 ⟨(show 4 ≤ 15 by decide), (show 113 ≤ 578 by decide)⟩ ⟨(by have h9 := hex.2.2.2.2.1; show _ ≤ 1088; omega), (by have h9 := hex.2.2.2.2.2; show _ ≤ 13600; omega)⟩ [] (Nat.le_of_ble_eq_true rfl) rfl ?_
  refine aw_aload_n (pc := 758) C dL_law_758 rfl 2 rfl ?_
  obtain ⟨q119, μ120, hq118, h⟩ := bn_some h
  refine aw_Vi (pc := 759) (a := 45) (Bs := []) C (ok_X4_firstError C.tr hq118) kv_X4_firstError q953 rfl rfl rfl rfl dL_law_759 ⟨(show 8 ≤ 15 by decide), (show 237 ≤ 578 by decide)⟩ ⟨(by have h9 := hex.2.2.2.2.1; show _ ≤ 1088; omega), (by have h9 := hex.2.2.2.2.2; show _ ≤ 13600; omega)⟩ [.int q117] (Nat.le_of_ble_eq_true rfl) rfl ?_
  refine aw_icmp_eq (pc := 762) C 1710 dL_law_762 rfl (fun hc => ?_) (fun hc => ?_)
  · replace h := ite_T h hc
    cases h
    refine aw_sub [0, 1, 2, 3, 4] rfl ?_
    exact aw_widen (cs + 1) (sl + 6) (Nat.le_succ _) (Nat.le_add_right _ _) hk
  · replace h := ite_F h hc
    cases h
noncomputable def L_law_j767 (xs : Nat → Int32) (L : Nat) (v4 : Int32) (μ : Mm) : Option Mm :=
  bn (L_load μ) fun q122 μ123 =>
  bn (X4_load μ123) fun q126 μ127 =>
  (X4_thrown μ127).bind fun q129 =>
  (if q129 = q122 then (if q122 = 0 then (if (lg_cmp (mOut μ127) (q126).toInt64) = 0 then some μ127 else none) else some μ127) else none)
theorem ok_L_law_j767 {l : Launch} {p : Program} {e : Env} {s : State} {m : MethodId} {args : Array Value} {below : List Frame} {meth : Method} {c : Code} {D : va_G} {cI cL : ClassId} {ad : Nat → Nat} {A : Nat → Prop} {Q : State → Prop} {bS cs sl : Nat} {ret9 : Option FieldType} (C : CX p l s m args meth c RL cL_law 9 ret9 D cI cL A) {r : Mm} {xs : Nat → Int32} {L : Nat} {v4 : Int32} (hex : NcX s ∧ va_X bS L xs s s.heap ∧ bS < s.heap.size ∧ ¬ A bS ∧ cs + 1 ≤ 1088 ∧ sl + 6 ≤ 13600) (hk : AW p l e room_1 s m args below meth c 9 D cI cL ad A (cs + 1) (sl + 6) Q 1710 [(0, .ref bS), (1, .ref (ad 0)), (2, .ref (ad 45)), (3, .ref (ad 54)), (4, .int v4)] [] r) {μ : Mm}  (h : L_law_j767 xs L v4 μ = some r) : AW p l e room_1 s m args below meth c 9 D cI cL ad A cs sl Q 767 [(0, .ref bS), (1, .ref (ad 0)), (2, .ref (ad 45)), (3, .ref (ad 54)), (4, .int v4)] [] μ := by
  unfold L_law_j767 at h
  refine aw_aload_n (pc := 767) C dL_law_767 rfl 1 rfl ?_
  refine aw_aload_n (pc := 768) C dL_law_768 rfl 3 rfl ?_
  obtain ⟨q122, μ123, hq124, h⟩ := bn_some h
  refine aw_W (pc := 769) (Bs := [.ref (ad 0), .ref (ad 54)]) C hex.1 (ok_L_load C.tr hq124) kw_L_load q592 rfl rfl dL_law_769 ⟨(show 8 ≤ 15 by decide), (show 239 ≤ 578 by decide)⟩ ⟨hex.2.2.2.2.1, hex.2.2.2.2.2⟩ [] (Nat.le_of_ble_eq_true rfl) rfl ?_
  refine aw_istore (pc := 772) C (x := q122) (lv' := [(5, .int q122), (0, .ref bS), (1, .ref (ad 0)), (2, .ref (ad 45)), (3, .ref (ad 54)), (4, .int v4)]) dL_law_772 (by decide) rfl rfl ?_
  refine aw_aload_n (pc := 774) C dL_law_774 rfl 3 rfl ?_
  obtain ⟨q126, μ127, hq125, h⟩ := bn_some h
  refine aw_Vi (pc := 775) (a := 45) (Bs := []) C (ok_X4_load C.tr hq125) kv_X4_load q1000 rfl rfl rfl rfl dL_law_775 ⟨(show 8 ≤ 15 by decide), (show 238 ≤ 578 by decide)⟩ ⟨(by have h9 := hex.2.2.2.2.1; show _ ≤ 1088; omega), (by have h9 := hex.2.2.2.2.2; show _ ≤ 13600; omega)⟩ [] (Nat.le_of_ble_eq_true rfl) rfl ?_
  refine aw_istore (pc := 778) C (x := q126) (lv' := [(6, .int q126), (5, .int q122), (0, .ref bS), (1, .ref (ad 0)), (2, .ref (ad 45)), (3, .ref (ad 54)), (4, .int v4)]) dL_law_778 (by decide) rfl rfl ?_
  refine aw_aload_n (pc := 780) C dL_law_780 rfl 4 rfl ?_
  obtain ⟨q129, hq128, h⟩ := bi_some h
  refine aw_Vi (pc := 781) (a := 45) (Bs := []) C (ok_X4_thrown C.tr hq128) kv_X4_thrown q819 rfl rfl rfl rfl dL_law_781 ⟨(show 1 ≤ 15 by decide), (show 20 ≤ 578 by decide)⟩ ⟨(by have h9 := hex.2.2.2.2.1; show _ ≤ 1088; omega), (by have h9 := hex.2.2.2.2.2; show _ ≤ 13600; omega)⟩ [] (Nat.le_of_ble_eq_true rfl) rfl ?_
  refine aw_iload (pc := 784) C dL_law_784 1 rfl ?_
  refine aw_icmp_eq (pc := 786) C 791 dL_law_786 rfl (fun hc => ?_) (fun hc => ?_)
  · replace h := ite_T h hc
    refine aw_iload (pc := 791) C dL_law_791 1 rfl ?_
    refine aw_if_ne (pc := 793) C 808 dL_law_793 rfl (fun hc => ?_) (fun hc => ?_)
    · replace h := ite_F h hc
      refine aw_goto (pc := 808) C 1710 dL_law_808 rfl ?_
      cases h
      refine aw_sub [2, 3, 4, 5, 6] rfl ?_
      exact hk
    · replace h := ite_T h hc
      refine aw_aload_n (pc := 796) C dL_law_796 rfl 5 rfl ?_
      refine aw_iconst (pc := 797) C (v := 0) dL_law_797 rfl ?_
      refine aw_laload (pc := 798) C (a := 54) (n := 1) rfl rfl dL_law_798 ?_
      refine aw_iload (pc := 799) C dL_law_799 0 rfl ?_
      refine aw_i2l (pc := 801) C dL_law_801 ?_
      refine aw_lcmp (pc := 802) C dL_law_802 ?_
      refine aw_if_eq (pc := 803) C 808 dL_law_803 rfl (fun hc => ?_) (fun hc => ?_)
      · replace h := ite_T h hc
        refine aw_goto (pc := 808) C 1710 dL_law_808 rfl ?_
        cases h
        refine aw_sub [2, 3, 4, 5, 6] rfl ?_
        exact hk
      · replace h := ite_F h hc
        cases h
  · replace h := ite_F h hc
    cases h
noncomputable def L_law_j811 (xs : Nat → Int32) (L : Nat) (v4 : Int32) (μ : Mm) : Option Mm :=
  ck (v4 + 1) L <|
  ck (v4 + 2) L <|
  ck (v4 + 3) L <|
  bn (L_resolve (xs ((v4 + 1) : Int32).toNatClampNeg) (xs ((v4 + 2) : Int32).toNatClampNeg) (xs ((v4 + 3) : Int32).toNatClampNeg) μ) fun q134 μ135 =>
  ck (v4 + 1) L <|
  ck (v4 + 2) L <|
  ck (v4 + 3) L <|
  bn (X4_resolve (xs ((v4 + 1) : Int32).toNatClampNeg) (xs ((v4 + 2) : Int32).toNatClampNeg) (xs ((v4 + 3) : Int32).toNatClampNeg) μ135) fun q141 μ142 =>
  (X4_thrown μ142).bind fun q144 =>
  (if q144 = q134 then (if q134 = 0 then (if (lg_cmp (mOut μ142) (q141).toInt64) = 0 then some μ142 else none) else some μ142) else none)
theorem ok_L_law_j811 {l : Launch} {p : Program} {e : Env} {s : State} {m : MethodId} {args : Array Value} {below : List Frame} {meth : Method} {c : Code} {D : va_G} {cI cL : ClassId} {ad : Nat → Nat} {A : Nat → Prop} {Q : State → Prop} {bS cs sl : Nat} {ret9 : Option FieldType} (C : CX p l s m args meth c RL cL_law 9 ret9 D cI cL A) {r : Mm} {xs : Nat → Int32} {L : Nat} {v4 : Int32} (hex : NcX s ∧ va_X bS L xs s s.heap ∧ bS < s.heap.size ∧ ¬ A bS ∧ cs + 1 ≤ 1088 ∧ sl + 6 ≤ 13600) (hk : AW p l e room_1 s m args below meth c 9 D cI cL ad A (cs + 1) (sl + 6) Q 1710 [(0, .ref bS), (1, .ref (ad 0)), (2, .ref (ad 45)), (3, .ref (ad 54)), (4, .int v4)] [] r) {μ : Mm}  (h : L_law_j811 xs L v4 μ = some r) : AW p l e room_1 s m args below meth c 9 D cI cL ad A cs sl Q 811 [(0, .ref bS), (1, .ref (ad 0)), (2, .ref (ad 45)), (3, .ref (ad 54)), (4, .int v4)] [] μ := by
  unfold L_law_j811 at h
  refine aw_aload_n (pc := 811) C dL_law_811 rfl 1 rfl ?_
  refine aw_aload_n (pc := 812) C dL_law_812 rfl 0 rfl ?_
  refine aw_iload (pc := 813) C dL_law_813 4 rfl ?_
  refine aw_iconst (pc := 815) C (v := 1) dL_law_815 rfl ?_
  refine aw_iadd (pc := 816) C dL_law_816 ?_
  obtain ⟨g131, h⟩ := ck_some h
  refine aw_sld (pc := 817) C hex.2.1 hex.2.2.1 hex.2.2.2.1 g131 dL_law_817 ?_
  refine aw_aload_n (pc := 818) C dL_law_818 rfl 0 rfl ?_
  refine aw_iload (pc := 819) C dL_law_819 4 rfl ?_
  refine aw_iconst (pc := 821) C (v := 2) dL_law_821 rfl ?_
  refine aw_iadd (pc := 822) C dL_law_822 ?_
  obtain ⟨g132, h⟩ := ck_some h
  refine aw_sld (pc := 823) C hex.2.1 hex.2.2.1 hex.2.2.2.1 g132 dL_law_823 ?_
  refine aw_aload_n (pc := 824) C dL_law_824 rfl 0 rfl ?_
  refine aw_iload (pc := 825) C dL_law_825 4 rfl ?_
  refine aw_iconst (pc := 827) C (v := 3) dL_law_827 rfl ?_
  refine aw_iadd (pc := 828) C dL_law_828 ?_
  obtain ⟨g133, h⟩ := ck_some h
  refine aw_sld (pc := 829) C hex.2.1 hex.2.2.1 hex.2.2.2.1 g133 dL_law_829 ?_
  refine aw_aload_n (pc := 830) C dL_law_830 rfl 3 rfl ?_
  obtain ⟨q134, μ135, hq136, h⟩ := bn_some h
  refine aw_W (pc := 831) (Bs := [.ref (ad 0), .int (xs ((v4 + 1) : Int32).toNatClampNeg), .int (xs ((v4 + 2) : Int32).toNatClampNeg), .int (xs ((v4 + 3) : Int32).toNatClampNeg), .ref (ad 54)]) C hex.1 (ok_L_resolve C.tr hq136) kw_L_resolve q630 rfl rfl dL_law_831 ⟨(show 9 ≤ 15 by decide), (show 273 ≤ 578 by decide)⟩ ⟨hex.2.2.2.2.1, hex.2.2.2.2.2⟩ [] (Nat.le_of_ble_eq_true rfl) rfl ?_
  refine aw_istore (pc := 834) C (x := q134) (lv' := [(5, .int q134), (0, .ref bS), (1, .ref (ad 0)), (2, .ref (ad 45)), (3, .ref (ad 54)), (4, .int v4)]) dL_law_834 (by decide) rfl rfl ?_
  refine aw_aload_n (pc := 836) C dL_law_836 rfl 3 rfl ?_
  refine aw_aload_n (pc := 837) C dL_law_837 rfl 1 rfl ?_
  refine aw_iload (pc := 838) C dL_law_838 5 rfl ?_
  refine aw_iconst (pc := 840) C (v := 1) dL_law_840 rfl ?_
  refine aw_iadd (pc := 841) C dL_law_841 ?_
  obtain ⟨g137, h⟩ := ck_some h
  refine aw_sld (pc := 842) C hex.2.1 hex.2.2.1 hex.2.2.2.1 g137 dL_law_842 ?_
  refine aw_aload_n (pc := 843) C dL_law_843 rfl 1 rfl ?_
  refine aw_iload (pc := 844) C dL_law_844 5 rfl ?_
  refine aw_iconst (pc := 846) C (v := 2) dL_law_846 rfl ?_
  refine aw_iadd (pc := 847) C dL_law_847 ?_
  obtain ⟨g138, h⟩ := ck_some h
  refine aw_sld (pc := 848) C hex.2.1 hex.2.2.1 hex.2.2.2.1 g138 dL_law_848 ?_
  refine aw_aload_n (pc := 849) C dL_law_849 rfl 1 rfl ?_
  refine aw_iload (pc := 850) C dL_law_850 5 rfl ?_
  refine aw_iconst (pc := 852) C (v := 3) dL_law_852 rfl ?_
  refine aw_iadd (pc := 853) C dL_law_853 ?_
  obtain ⟨g139, h⟩ := ck_some h
  refine aw_sld (pc := 854) C hex.2.1 hex.2.2.1 hex.2.2.2.1 g139 dL_law_854 ?_
  obtain ⟨q141, μ142, hq140, h⟩ := bn_some h
  refine aw_Vi (pc := 855) (a := 45) (Bs := [.int (xs ((v4 + 1) : Int32).toNatClampNeg), .int (xs ((v4 + 2) : Int32).toNatClampNeg), .int (xs ((v4 + 3) : Int32).toNatClampNeg)]) C (ok_X4_resolve C.tr hq140) kv_X4_resolve q1008 rfl rfl rfl rfl dL_law_855 ⟨(show 8 ≤ 15 by decide), (show 240 ≤ 578 by decide)⟩ ⟨(by have h9 := hex.2.2.2.2.1; show _ ≤ 1088; omega), (by have h9 := hex.2.2.2.2.2; show _ ≤ 13600; omega)⟩ [] (Nat.le_of_ble_eq_true rfl) rfl ?_
  refine aw_istore (pc := 858) C (x := q141) (lv' := [(6, .int q141), (5, .int q134), (0, .ref bS), (1, .ref (ad 0)), (2, .ref (ad 45)), (3, .ref (ad 54)), (4, .int v4)]) dL_law_858 (by decide) rfl rfl ?_
  refine aw_aload_n (pc := 860) C dL_law_860 rfl 4 rfl ?_
  obtain ⟨q144, hq143, h⟩ := bi_some h
  refine aw_Vi (pc := 861) (a := 45) (Bs := []) C (ok_X4_thrown C.tr hq143) kv_X4_thrown q819 rfl rfl rfl rfl dL_law_861 ⟨(show 1 ≤ 15 by decide), (show 20 ≤ 578 by decide)⟩ ⟨(by have h9 := hex.2.2.2.2.1; show _ ≤ 1088; omega), (by have h9 := hex.2.2.2.2.2; show _ ≤ 13600; omega)⟩ [] (Nat.le_of_ble_eq_true rfl) rfl ?_
  refine aw_iload (pc := 864) C dL_law_864 1 rfl ?_
  refine aw_icmp_eq (pc := 866) C 871 dL_law_866 rfl (fun hc => ?_) (fun hc => ?_)
  · replace h := ite_T h hc
    refine aw_iload (pc := 871) C dL_law_871 1 rfl ?_
    refine aw_if_ne (pc := 873) C 888 dL_law_873 rfl (fun hc => ?_) (fun hc => ?_)
    · replace h := ite_F h hc
      refine aw_goto (pc := 888) C 1710 dL_law_888 rfl ?_
      cases h
      refine aw_sub [2, 3, 4, 5, 6] rfl ?_
      exact hk
    · replace h := ite_T h hc
      refine aw_aload_n (pc := 876) C dL_law_876 rfl 5 rfl ?_
      refine aw_iconst (pc := 877) C (v := 0) dL_law_877 rfl ?_
      refine aw_laload (pc := 878) C (a := 54) (n := 1) rfl rfl dL_law_878 ?_
      refine aw_iload (pc := 879) C dL_law_879 0 rfl ?_
      refine aw_i2l (pc := 881) C dL_law_881 ?_
      refine aw_lcmp (pc := 882) C dL_law_882 ?_
      refine aw_if_eq (pc := 883) C 888 dL_law_883 rfl (fun hc => ?_) (fun hc => ?_)
      · replace h := ite_T h hc
        refine aw_goto (pc := 888) C 1710 dL_law_888 rfl ?_
        cases h
        refine aw_sub [2, 3, 4, 5, 6] rfl ?_
        exact hk
      · replace h := ite_F h hc
        cases h
  · replace h := ite_F h hc
    cases h
noncomputable def L_law_j891 (xs : Nat → Int32) (L : Nat) (v4 : Int32) (μ : Mm) : Option Mm :=
  ck (v4 + 1) L <|
  ck (v4 + 2) L <|
  ck (v4 + 3) L <|
  ck (v4 + 4) L <|
  bn (L_candidate (xs ((v4 + 1) : Int32).toNatClampNeg) (xs ((v4 + 2) : Int32).toNatClampNeg) (xs ((v4 + 3) : Int32).toNatClampNeg) (xs ((v4 + 4) : Int32).toNatClampNeg) μ) fun q150 μ151 =>
  ck (v4 + 1) L <|
  ck (v4 + 2) L <|
  ck (v4 + 3) L <|
  ck (v4 + 4) L <|
  bn (X4_candidate (xs ((v4 + 1) : Int32).toNatClampNeg) (xs ((v4 + 2) : Int32).toNatClampNeg) (xs ((v4 + 3) : Int32).toNatClampNeg) (xs ((v4 + 4) : Int32).toNatClampNeg) μ151) fun q158 μ159 =>
  (X4_thrown μ159).bind fun q161 =>
  (if q161 = q150 then (if q150 = 0 then (if (lg_cmp (mOut μ159) (q158).toInt64) = 0 then some μ159 else none) else some μ159) else none)
theorem ok_L_law_j891 {l : Launch} {p : Program} {e : Env} {s : State} {m : MethodId} {args : Array Value} {below : List Frame} {meth : Method} {c : Code} {D : va_G} {cI cL : ClassId} {ad : Nat → Nat} {A : Nat → Prop} {Q : State → Prop} {bS cs sl : Nat} {ret9 : Option FieldType} (C : CX p l s m args meth c RL cL_law 9 ret9 D cI cL A) {r : Mm} {xs : Nat → Int32} {L : Nat} {v4 : Int32} (hex : NcX s ∧ va_X bS L xs s s.heap ∧ bS < s.heap.size ∧ ¬ A bS ∧ cs + 1 ≤ 1088 ∧ sl + 6 ≤ 13600) (hk : AW p l e room_1 s m args below meth c 9 D cI cL ad A (cs + 1) (sl + 6) Q 1710 [(0, .ref bS), (1, .ref (ad 0)), (2, .ref (ad 45)), (3, .ref (ad 54)), (4, .int v4)] [] r) {μ : Mm}  (h : L_law_j891 xs L v4 μ = some r) : AW p l e room_1 s m args below meth c 9 D cI cL ad A cs sl Q 891 [(0, .ref bS), (1, .ref (ad 0)), (2, .ref (ad 45)), (3, .ref (ad 54)), (4, .int v4)] [] μ := by
  unfold L_law_j891 at h
  refine aw_aload_n (pc := 891) C dL_law_891 rfl 1 rfl ?_
  refine aw_aload_n (pc := 892) C dL_law_892 rfl 0 rfl ?_
  refine aw_iload (pc := 893) C dL_law_893 4 rfl ?_
  refine aw_iconst (pc := 895) C (v := 1) dL_law_895 rfl ?_
  refine aw_iadd (pc := 896) C dL_law_896 ?_
  obtain ⟨g146, h⟩ := ck_some h
  refine aw_sld (pc := 897) C hex.2.1 hex.2.2.1 hex.2.2.2.1 g146 dL_law_897 ?_
  refine aw_aload_n (pc := 898) C dL_law_898 rfl 0 rfl ?_
  refine aw_iload (pc := 899) C dL_law_899 4 rfl ?_
  refine aw_iconst (pc := 901) C (v := 2) dL_law_901 rfl ?_
  refine aw_iadd (pc := 902) C dL_law_902 ?_
  obtain ⟨g147, h⟩ := ck_some h
  refine aw_sld (pc := 903) C hex.2.1 hex.2.2.1 hex.2.2.2.1 g147 dL_law_903 ?_
  refine aw_aload_n (pc := 904) C dL_law_904 rfl 0 rfl ?_
  refine aw_iload (pc := 905) C dL_law_905 4 rfl ?_
  refine aw_iconst (pc := 907) C (v := 3) dL_law_907 rfl ?_
  refine aw_iadd (pc := 908) C dL_law_908 ?_
  obtain ⟨g148, h⟩ := ck_some h
  refine aw_sld (pc := 909) C hex.2.1 hex.2.2.1 hex.2.2.2.1 g148 dL_law_909 ?_
  refine aw_aload_n (pc := 910) C dL_law_910 rfl 0 rfl ?_
  refine aw_iload (pc := 911) C dL_law_911 4 rfl ?_
  refine aw_iconst (pc := 913) C (v := 4) dL_law_913 rfl ?_
  refine aw_iadd (pc := 914) C dL_law_914 ?_
  obtain ⟨g149, h⟩ := ck_some h
  refine aw_sld (pc := 915) C hex.2.1 hex.2.2.1 hex.2.2.2.1 g149 dL_law_915 ?_
  refine aw_aload_n (pc := 916) C dL_law_916 rfl 3 rfl ?_
  obtain ⟨q150, μ151, hq152, h⟩ := bn_some h
  refine aw_W (pc := 917) (Bs := [.ref (ad 0), .int (xs ((v4 + 1) : Int32).toNatClampNeg), .int (xs ((v4 + 2) : Int32).toNatClampNeg), .int (xs ((v4 + 3) : Int32).toNatClampNeg), .int (xs ((v4 + 4) : Int32).toNatClampNeg), .ref (ad 54)]) C hex.1 (ok_L_candidate C.tr hq152) kw_L_candidate q643 rfl rfl dL_law_917 ⟨(show 9 ≤ 15 by decide), (show 274 ≤ 578 by decide)⟩ ⟨hex.2.2.2.2.1, hex.2.2.2.2.2⟩ [] (Nat.le_of_ble_eq_true rfl) rfl ?_
  refine aw_istore (pc := 920) C (x := q150) (lv' := [(5, .int q150), (0, .ref bS), (1, .ref (ad 0)), (2, .ref (ad 45)), (3, .ref (ad 54)), (4, .int v4)]) dL_law_920 (by decide) rfl rfl ?_
  refine aw_aload_n (pc := 922) C dL_law_922 rfl 3 rfl ?_
  refine aw_aload_n (pc := 923) C dL_law_923 rfl 1 rfl ?_
  refine aw_iload (pc := 924) C dL_law_924 5 rfl ?_
  refine aw_iconst (pc := 926) C (v := 1) dL_law_926 rfl ?_
  refine aw_iadd (pc := 927) C dL_law_927 ?_
  obtain ⟨g153, h⟩ := ck_some h
  refine aw_sld (pc := 928) C hex.2.1 hex.2.2.1 hex.2.2.2.1 g153 dL_law_928 ?_
  refine aw_aload_n (pc := 929) C dL_law_929 rfl 1 rfl ?_
  refine aw_iload (pc := 930) C dL_law_930 5 rfl ?_
  refine aw_iconst (pc := 932) C (v := 2) dL_law_932 rfl ?_
  refine aw_iadd (pc := 933) C dL_law_933 ?_
  obtain ⟨g154, h⟩ := ck_some h
  refine aw_sld (pc := 934) C hex.2.1 hex.2.2.1 hex.2.2.2.1 g154 dL_law_934 ?_
  refine aw_aload_n (pc := 935) C dL_law_935 rfl 1 rfl ?_
  refine aw_iload (pc := 936) C dL_law_936 5 rfl ?_
  refine aw_iconst (pc := 938) C (v := 3) dL_law_938 rfl ?_
  refine aw_iadd (pc := 939) C dL_law_939 ?_
  obtain ⟨g155, h⟩ := ck_some h
  refine aw_sld (pc := 940) C hex.2.1 hex.2.2.1 hex.2.2.2.1 g155 dL_law_940 ?_
  refine aw_aload_n (pc := 941) C dL_law_941 rfl 1 rfl ?_
  refine aw_iload (pc := 942) C dL_law_942 5 rfl ?_
  refine aw_iconst (pc := 944) C (v := 4) dL_law_944 rfl ?_
  refine aw_iadd (pc := 945) C dL_law_945 ?_
  obtain ⟨g156, h⟩ := ck_some h
  refine aw_sld (pc := 946) C hex.2.1 hex.2.2.1 hex.2.2.2.1 g156 dL_law_946 ?_
  obtain ⟨q158, μ159, hq157, h⟩ := bn_some h
  refine aw_Vi (pc := 947) (a := 45) (Bs := [.int (xs ((v4 + 1) : Int32).toNatClampNeg), .int (xs ((v4 + 2) : Int32).toNatClampNeg), .int (xs ((v4 + 3) : Int32).toNatClampNeg), .int (xs ((v4 + 4) : Int32).toNatClampNeg)]) C (ok_X4_candidate C.tr hq157) kv_X4_candidate q1025 rfl rfl rfl rfl dL_law_947 ⟨(show 8 ≤ 15 by decide), (show 241 ≤ 578 by decide)⟩ ⟨(by have h9 := hex.2.2.2.2.1; show _ ≤ 1088; omega), (by have h9 := hex.2.2.2.2.2; show _ ≤ 13600; omega)⟩ [] (Nat.le_of_ble_eq_true rfl) rfl ?_
  refine aw_istore (pc := 950) C (x := q158) (lv' := [(6, .int q158), (5, .int q150), (0, .ref bS), (1, .ref (ad 0)), (2, .ref (ad 45)), (3, .ref (ad 54)), (4, .int v4)]) dL_law_950 (by decide) rfl rfl ?_
  refine aw_aload_n (pc := 952) C dL_law_952 rfl 4 rfl ?_
  obtain ⟨q161, hq160, h⟩ := bi_some h
  refine aw_Vi (pc := 953) (a := 45) (Bs := []) C (ok_X4_thrown C.tr hq160) kv_X4_thrown q819 rfl rfl rfl rfl dL_law_953 ⟨(show 1 ≤ 15 by decide), (show 20 ≤ 578 by decide)⟩ ⟨(by have h9 := hex.2.2.2.2.1; show _ ≤ 1088; omega), (by have h9 := hex.2.2.2.2.2; show _ ≤ 13600; omega)⟩ [] (Nat.le_of_ble_eq_true rfl) rfl ?_
  refine aw_iload (pc := 956) C dL_law_956 1 rfl ?_
  refine aw_icmp_eq (pc := 958) C 963 dL_law_958 rfl (fun hc => ?_) (fun hc => ?_)
  · replace h := ite_T h hc
    refine aw_iload (pc := 963) C dL_law_963 1 rfl ?_
    refine aw_if_ne (pc := 965) C 980 dL_law_965 rfl (fun hc => ?_) (fun hc => ?_)
    · replace h := ite_F h hc
      refine aw_goto (pc := 980) C 1710 dL_law_980 rfl ?_
      cases h
      refine aw_sub [2, 3, 4, 5, 6] rfl ?_
      exact hk
    · replace h := ite_T h hc
      refine aw_aload_n (pc := 968) C dL_law_968 rfl 5 rfl ?_
      refine aw_iconst (pc := 969) C (v := 0) dL_law_969 rfl ?_
      refine aw_laload (pc := 970) C (a := 54) (n := 1) rfl rfl dL_law_970 ?_
      refine aw_iload (pc := 971) C dL_law_971 0 rfl ?_
      refine aw_i2l (pc := 973) C dL_law_973 ?_
      refine aw_lcmp (pc := 974) C dL_law_974 ?_
      refine aw_if_eq (pc := 975) C 980 dL_law_975 rfl (fun hc => ?_) (fun hc => ?_)
      · replace h := ite_T h hc
        refine aw_goto (pc := 980) C 1710 dL_law_980 rfl ?_
        cases h
        refine aw_sub [2, 3, 4, 5, 6] rfl ?_
        exact hk
      · replace h := ite_F h hc
        cases h
  · replace h := ite_F h hc
    cases h
noncomputable def L_law_j983 (xs : Nat → Int32) (L : Nat) (v4 : Int32) (μ : Mm) : Option Mm :=
  ck (v4 + 1) L <|
  ck (v4 + 2) L <|
  bn (L_offers (xs ((v4 + 1) : Int32).toNatClampNeg) (xs ((v4 + 2) : Int32).toNatClampNeg) μ) fun q165 μ166 =>
  ck (v4 + 1) L <|
  ck (v4 + 2) L <|
  bn (X4_offers (xs ((v4 + 1) : Int32).toNatClampNeg) (xs ((v4 + 2) : Int32).toNatClampNeg) μ166) fun q171 μ172 =>
  (X4_thrown μ172).bind fun q174 =>
  (if q174 = q165 then (if q165 = 0 then (if (lg_cmp (mOut μ172) (q171).toInt64) = 0 then some μ172 else none) else some μ172) else none)
theorem ok_L_law_j983 {l : Launch} {p : Program} {e : Env} {s : State} {m : MethodId} {args : Array Value} {below : List Frame} {meth : Method} {c : Code} {D : va_G} {cI cL : ClassId} {ad : Nat → Nat} {A : Nat → Prop} {Q : State → Prop} {bS cs sl : Nat} {ret9 : Option FieldType} (C : CX p l s m args meth c RL cL_law 9 ret9 D cI cL A) {r : Mm} {xs : Nat → Int32} {L : Nat} {v4 : Int32} (hex : NcX s ∧ va_X bS L xs s s.heap ∧ bS < s.heap.size ∧ ¬ A bS ∧ cs + 1 ≤ 1088 ∧ sl + 6 ≤ 13600) (hk : AW p l e room_1 s m args below meth c 9 D cI cL ad A (cs + 1) (sl + 6) Q 1710 [(0, .ref bS), (1, .ref (ad 0)), (2, .ref (ad 45)), (3, .ref (ad 54)), (4, .int v4)] [] r) {μ : Mm}  (h : L_law_j983 xs L v4 μ = some r) : AW p l e room_1 s m args below meth c 9 D cI cL ad A cs sl Q 983 [(0, .ref bS), (1, .ref (ad 0)), (2, .ref (ad 45)), (3, .ref (ad 54)), (4, .int v4)] [] μ := by
  unfold L_law_j983 at h
  refine aw_aload_n (pc := 983) C dL_law_983 rfl 1 rfl ?_
  refine aw_aload_n (pc := 984) C dL_law_984 rfl 0 rfl ?_
  refine aw_iload (pc := 985) C dL_law_985 4 rfl ?_
  refine aw_iconst (pc := 987) C (v := 1) dL_law_987 rfl ?_
  refine aw_iadd (pc := 988) C dL_law_988 ?_
  obtain ⟨g163, h⟩ := ck_some h
  refine aw_sld (pc := 989) C hex.2.1 hex.2.2.1 hex.2.2.2.1 g163 dL_law_989 ?_
  refine aw_aload_n (pc := 990) C dL_law_990 rfl 0 rfl ?_
  refine aw_iload (pc := 991) C dL_law_991 4 rfl ?_
  refine aw_iconst (pc := 993) C (v := 2) dL_law_993 rfl ?_
  refine aw_iadd (pc := 994) C dL_law_994 ?_
  obtain ⟨g164, h⟩ := ck_some h
  refine aw_sld (pc := 995) C hex.2.1 hex.2.2.1 hex.2.2.2.1 g164 dL_law_995 ?_
  refine aw_aload_n (pc := 996) C dL_law_996 rfl 3 rfl ?_
  obtain ⟨q165, μ166, hq167, h⟩ := bn_some h
  refine aw_W (pc := 997) (Bs := [.ref (ad 0), .int (xs ((v4 + 1) : Int32).toNatClampNeg), .int (xs ((v4 + 2) : Int32).toNatClampNeg), .ref (ad 54)]) C hex.1 (ok_L_offers C.tr hq167) kw_L_offers q657 rfl rfl dL_law_997 ⟨(show 9 ≤ 15 by decide), (show 272 ≤ 578 by decide)⟩ ⟨hex.2.2.2.2.1, hex.2.2.2.2.2⟩ [] (Nat.le_of_ble_eq_true rfl) rfl ?_
  refine aw_istore (pc := 1000) C (x := q165) (lv' := [(5, .int q165), (0, .ref bS), (1, .ref (ad 0)), (2, .ref (ad 45)), (3, .ref (ad 54)), (4, .int v4)]) dL_law_1000 (by decide) rfl rfl ?_
  refine aw_aload_n (pc := 1002) C dL_law_1002 rfl 3 rfl ?_
  refine aw_aload_n (pc := 1003) C dL_law_1003 rfl 1 rfl ?_
  refine aw_iload (pc := 1004) C dL_law_1004 5 rfl ?_
  refine aw_iconst (pc := 1006) C (v := 1) dL_law_1006 rfl ?_
  refine aw_iadd (pc := 1007) C dL_law_1007 ?_
  obtain ⟨g168, h⟩ := ck_some h
  refine aw_sld (pc := 1008) C hex.2.1 hex.2.2.1 hex.2.2.2.1 g168 dL_law_1008 ?_
  refine aw_aload_n (pc := 1009) C dL_law_1009 rfl 1 rfl ?_
  refine aw_iload (pc := 1010) C dL_law_1010 5 rfl ?_
  refine aw_iconst (pc := 1012) C (v := 2) dL_law_1012 rfl ?_
  refine aw_iadd (pc := 1013) C dL_law_1013 ?_
  obtain ⟨g169, h⟩ := ck_some h
  refine aw_sld (pc := 1014) C hex.2.1 hex.2.2.1 hex.2.2.2.1 g169 dL_law_1014 ?_
  obtain ⟨q171, μ172, hq170, h⟩ := bn_some h
  refine aw_Vi (pc := 1015) (a := 45) (Bs := [.int (xs ((v4 + 1) : Int32).toNatClampNeg), .int (xs ((v4 + 2) : Int32).toNatClampNeg)]) C (ok_X4_offers C.tr hq170) kv_X4_offers q1033 rfl rfl rfl rfl dL_law_1015 ⟨(show 6 ≤ 15 by decide), (show 177 ≤ 578 by decide)⟩ ⟨(by have h9 := hex.2.2.2.2.1; show _ ≤ 1088; omega), (by have h9 := hex.2.2.2.2.2; show _ ≤ 13600; omega)⟩ [] (Nat.le_of_ble_eq_true rfl) rfl ?_
  refine aw_istore (pc := 1018) C (x := q171) (lv' := [(6, .int q171), (5, .int q165), (0, .ref bS), (1, .ref (ad 0)), (2, .ref (ad 45)), (3, .ref (ad 54)), (4, .int v4)]) dL_law_1018 (by decide) rfl rfl ?_
  refine aw_aload_n (pc := 1020) C dL_law_1020 rfl 4 rfl ?_
  obtain ⟨q174, hq173, h⟩ := bi_some h
  refine aw_Vi (pc := 1021) (a := 45) (Bs := []) C (ok_X4_thrown C.tr hq173) kv_X4_thrown q819 rfl rfl rfl rfl dL_law_1021 ⟨(show 1 ≤ 15 by decide), (show 20 ≤ 578 by decide)⟩ ⟨(by have h9 := hex.2.2.2.2.1; show _ ≤ 1088; omega), (by have h9 := hex.2.2.2.2.2; show _ ≤ 13600; omega)⟩ [] (Nat.le_of_ble_eq_true rfl) rfl ?_
  refine aw_iload (pc := 1024) C dL_law_1024 1 rfl ?_
  refine aw_icmp_eq (pc := 1026) C 1031 dL_law_1026 rfl (fun hc => ?_) (fun hc => ?_)
  · replace h := ite_T h hc
    refine aw_iload (pc := 1031) C dL_law_1031 1 rfl ?_
    refine aw_if_ne (pc := 1033) C 1048 dL_law_1033 rfl (fun hc => ?_) (fun hc => ?_)
    · replace h := ite_F h hc
      refine aw_goto (pc := 1048) C 1710 dL_law_1048 rfl ?_
      cases h
      refine aw_sub [2, 3, 4, 5, 6] rfl ?_
      exact hk
    · replace h := ite_T h hc
      refine aw_aload_n (pc := 1036) C dL_law_1036 rfl 5 rfl ?_
      refine aw_iconst (pc := 1037) C (v := 0) dL_law_1037 rfl ?_
      refine aw_laload (pc := 1038) C (a := 54) (n := 1) rfl rfl dL_law_1038 ?_
      refine aw_iload (pc := 1039) C dL_law_1039 0 rfl ?_
      refine aw_i2l (pc := 1041) C dL_law_1041 ?_
      refine aw_lcmp (pc := 1042) C dL_law_1042 ?_
      refine aw_if_eq (pc := 1043) C 1048 dL_law_1043 rfl (fun hc => ?_) (fun hc => ?_)
      · replace h := ite_T h hc
        refine aw_goto (pc := 1048) C 1710 dL_law_1048 rfl ?_
        cases h
        refine aw_sub [2, 3, 4, 5, 6] rfl ?_
        exact hk
      · replace h := ite_F h hc
        cases h
  · replace h := ite_F h hc
    cases h
noncomputable def L_law_j1051 (xs : Nat → Int32) (L : Nat) (v4 : Int32) (μ : Mm) : Option Mm :=
  ck (v4 + 1) L <|
  ck (v4 + 2) L <|
  bn (L_visible (xs ((v4 + 1) : Int32).toNatClampNeg) (if (xs ((v4 + 2) : Int32).toNatClampNeg) = 0 then (0 : Int32) else 1) μ) fun q178 μ179 =>
  ck (v4 + 1) L <|
  ck (v4 + 2) L <|
  bn (X4_visible (xs ((v4 + 1) : Int32).toNatClampNeg) (if (xs ((v4 + 2) : Int32).toNatClampNeg) = 0 then (0 : Int32) else 1) μ179) fun q184 μ185 =>
  (X4_thrown μ185).bind fun q187 =>
  (if q187 = q178 then (if q178 = 0 then (if (lg_cmp (mOut μ185) (q184).toInt64) = 0 then some μ185 else none) else some μ185) else none)
theorem ok_L_law_j1051 {l : Launch} {p : Program} {e : Env} {s : State} {m : MethodId} {args : Array Value} {below : List Frame} {meth : Method} {c : Code} {D : va_G} {cI cL : ClassId} {ad : Nat → Nat} {A : Nat → Prop} {Q : State → Prop} {bS cs sl : Nat} {ret9 : Option FieldType} (C : CX p l s m args meth c RL cL_law 9 ret9 D cI cL A) {r : Mm} {xs : Nat → Int32} {L : Nat} {v4 : Int32} (hex : NcX s ∧ va_X bS L xs s s.heap ∧ bS < s.heap.size ∧ ¬ A bS ∧ cs + 1 ≤ 1088 ∧ sl + 6 ≤ 13600) (hk : AW p l e room_1 s m args below meth c 9 D cI cL ad A (cs + 1) (sl + 6) Q 1710 [(0, .ref bS), (1, .ref (ad 0)), (2, .ref (ad 45)), (3, .ref (ad 54)), (4, .int v4)] [] r) {μ : Mm}  (h : L_law_j1051 xs L v4 μ = some r) : AW p l e room_1 s m args below meth c 9 D cI cL ad A cs sl Q 1051 [(0, .ref bS), (1, .ref (ad 0)), (2, .ref (ad 45)), (3, .ref (ad 54)), (4, .int v4)] [] μ := by
  unfold L_law_j1051 at h
  refine aw_aload_n (pc := 1051) C dL_law_1051 rfl 1 rfl ?_
  refine aw_aload_n (pc := 1052) C dL_law_1052 rfl 0 rfl ?_
  refine aw_iload (pc := 1053) C dL_law_1053 4 rfl ?_
  refine aw_iconst (pc := 1055) C (v := 1) dL_law_1055 rfl ?_
  refine aw_iadd (pc := 1056) C dL_law_1056 ?_
  obtain ⟨g176, h⟩ := ck_some h
  refine aw_sld (pc := 1057) C hex.2.1 hex.2.2.1 hex.2.2.2.1 g176 dL_law_1057 ?_
  refine aw_aload_n (pc := 1058) C dL_law_1058 rfl 0 rfl ?_
  refine aw_iload (pc := 1059) C dL_law_1059 4 rfl ?_
  refine aw_iconst (pc := 1061) C (v := 2) dL_law_1061 rfl ?_
  refine aw_iadd (pc := 1062) C dL_law_1062 ?_
  obtain ⟨g177, h⟩ := ck_some h
  refine aw_sld (pc := 1063) C hex.2.1 hex.2.2.1 hex.2.2.2.1 g177 dL_law_1063 ?_
  have kJ : AW p l e room_1 s m args below meth c 9 D cI cL ad A cs sl Q 1072 [(0, .ref bS), (1, .ref (ad 0)), (2, .ref (ad 45)), (3, .ref (ad 54)), (4, .int v4)] [.int (if (xs ((v4 + 2) : Int32).toNatClampNeg) = 0 then (0 : Int32) else 1), .int (xs ((v4 + 1) : Int32).toNatClampNeg), .ref (ad 0)] μ := by
    refine aw_aload_n (pc := 1072) C dL_law_1072 rfl 3 rfl ?_
    obtain ⟨q178, μ179, hq180, h⟩ := bn_some h
    refine aw_W (pc := 1073) (Bs := [.ref (ad 0), .int (xs ((v4 + 1) : Int32).toNatClampNeg), .int (if (xs ((v4 + 2) : Int32).toNatClampNeg) = 0 then (0 : Int32) else 1), .ref (ad 54)]) C hex.1 (ok_L_visible C.tr hq180) kw_L_visible q664 rfl rfl dL_law_1073 ⟨(show 9 ≤ 15 by decide), (show 272 ≤ 578 by decide)⟩ ⟨hex.2.2.2.2.1, hex.2.2.2.2.2⟩ [] (Nat.le_of_ble_eq_true rfl) rfl ?_
    refine aw_istore (pc := 1076) C (x := q178) (lv' := [(5, .int q178), (0, .ref bS), (1, .ref (ad 0)), (2, .ref (ad 45)), (3, .ref (ad 54)), (4, .int v4)]) dL_law_1076 (by decide) rfl rfl ?_
    refine aw_aload_n (pc := 1078) C dL_law_1078 rfl 3 rfl ?_
    refine aw_aload_n (pc := 1079) C dL_law_1079 rfl 1 rfl ?_
    refine aw_iload (pc := 1080) C dL_law_1080 5 rfl ?_
    refine aw_iconst (pc := 1082) C (v := 1) dL_law_1082 rfl ?_
    refine aw_iadd (pc := 1083) C dL_law_1083 ?_
    obtain ⟨g181, h⟩ := ck_some h
    refine aw_sld (pc := 1084) C hex.2.1 hex.2.2.1 hex.2.2.2.1 g181 dL_law_1084 ?_
    refine aw_aload_n (pc := 1085) C dL_law_1085 rfl 1 rfl ?_
    refine aw_iload (pc := 1086) C dL_law_1086 5 rfl ?_
    refine aw_iconst (pc := 1088) C (v := 2) dL_law_1088 rfl ?_
    refine aw_iadd (pc := 1089) C dL_law_1089 ?_
    obtain ⟨g182, h⟩ := ck_some h
    refine aw_sld (pc := 1090) C hex.2.1 hex.2.2.1 hex.2.2.2.1 g182 dL_law_1090 ?_
    have kJ : AW p l e room_1 s m args below meth c 9 D cI cL ad A (cs + 1) (sl + 6) Q 1099 [(5, .int q178), (0, .ref bS), (1, .ref (ad 0)), (2, .ref (ad 45)), (3, .ref (ad 54)), (4, .int v4)] [.int (if (xs ((v4 + 2) : Int32).toNatClampNeg) = 0 then (0 : Int32) else 1), .int (xs ((v4 + 1) : Int32).toNatClampNeg), .ref (ad 45)] μ179 := by
      obtain ⟨q184, μ185, hq183, h⟩ := bn_some h
      refine aw_Vi (pc := 1099) (a := 45) (Bs := [.int (xs ((v4 + 1) : Int32).toNatClampNeg), .int (if (xs ((v4 + 2) : Int32).toNatClampNeg) = 0 then (0 : Int32) else 1)]) C (ok_X4_visible C.tr hq183) kv_X4_visible q1037 rfl rfl rfl rfl dL_law_1099 ⟨(show 9 ≤ 15 by decide), (show 270 ≤ 578 by decide)⟩ ⟨(by have h9 := hex.2.2.2.2.1; show _ ≤ 1088; omega), (by have h9 := hex.2.2.2.2.2; show _ ≤ 13600; omega)⟩ [] (Nat.le_of_ble_eq_true rfl) rfl ?_
      refine aw_istore (pc := 1102) C (x := q184) (lv' := [(6, .int q184), (5, .int q178), (0, .ref bS), (1, .ref (ad 0)), (2, .ref (ad 45)), (3, .ref (ad 54)), (4, .int v4)]) dL_law_1102 (by decide) rfl rfl ?_
      refine aw_aload_n (pc := 1104) C dL_law_1104 rfl 4 rfl ?_
      obtain ⟨q187, hq186, h⟩ := bi_some h
      refine aw_Vi (pc := 1105) (a := 45) (Bs := []) C (ok_X4_thrown C.tr hq186) kv_X4_thrown q819 rfl rfl rfl rfl dL_law_1105 ⟨(show 1 ≤ 15 by decide), (show 20 ≤ 578 by decide)⟩ ⟨(by have h9 := hex.2.2.2.2.1; show _ ≤ 1088; omega), (by have h9 := hex.2.2.2.2.2; show _ ≤ 13600; omega)⟩ [] (Nat.le_of_ble_eq_true rfl) rfl ?_
      refine aw_iload (pc := 1108) C dL_law_1108 1 rfl ?_
      refine aw_icmp_eq (pc := 1110) C 1115 dL_law_1110 rfl (fun hc => ?_) (fun hc => ?_)
      · replace h := ite_T h hc
        refine aw_iload (pc := 1115) C dL_law_1115 1 rfl ?_
        refine aw_if_ne (pc := 1117) C 1132 dL_law_1117 rfl (fun hc => ?_) (fun hc => ?_)
        · replace h := ite_F h hc
          refine aw_goto (pc := 1132) C 1710 dL_law_1132 rfl ?_
          cases h
          refine aw_sub [2, 3, 4, 5, 6] rfl ?_
          exact hk
        · replace h := ite_T h hc
          refine aw_aload_n (pc := 1120) C dL_law_1120 rfl 5 rfl ?_
          refine aw_iconst (pc := 1121) C (v := 0) dL_law_1121 rfl ?_
          refine aw_laload (pc := 1122) C (a := 54) (n := 1) rfl rfl dL_law_1122 ?_
          refine aw_iload (pc := 1123) C dL_law_1123 0 rfl ?_
          refine aw_i2l (pc := 1125) C dL_law_1125 ?_
          refine aw_lcmp (pc := 1126) C dL_law_1126 ?_
          refine aw_if_eq (pc := 1127) C 1132 dL_law_1127 rfl (fun hc => ?_) (fun hc => ?_)
          · replace h := ite_T h hc
            refine aw_goto (pc := 1132) C 1710 dL_law_1132 rfl ?_
            cases h
            refine aw_sub [2, 3, 4, 5, 6] rfl ?_
            exact hk
          · replace h := ite_F h hc
            cases h
      · replace h := ite_F h hc
        cases h
    refine aw_if_eq (pc := 1091) C 1098 dL_law_1091 rfl (fun hd1 => ?_) (fun hd1 => ?_)
    · refine aw_iconst (pc := 1098) C (v := 0) dL_law_1098 rfl ?_
      rw [if_pos hd1] at kJ
      exact kJ
    · refine aw_iconst (pc := 1094) C (v := 1) dL_law_1094 rfl ?_
      refine aw_goto (pc := 1095) C 1099 dL_law_1095 rfl ?_
      rw [if_neg hd1] at kJ
      exact kJ
  refine aw_if_eq (pc := 1064) C 1071 dL_law_1064 rfl (fun hd1 => ?_) (fun hd1 => ?_)
  · refine aw_iconst (pc := 1071) C (v := 0) dL_law_1071 rfl ?_
    rw [if_pos hd1] at kJ
    exact kJ
  · refine aw_iconst (pc := 1067) C (v := 1) dL_law_1067 rfl ?_
    refine aw_goto (pc := 1068) C 1072 dL_law_1068 rfl ?_
    rw [if_neg hd1] at kJ
    exact kJ
noncomputable def L_law_j1135 (xs : Nat → Int32) (L : Nat) (v4 : Int32) (μ : Mm) : Option Mm :=
  ck (v4 + 1) L <|
  ck (v4 + 2) L <|
  bn (L_rename (xs ((v4 + 1) : Int32).toNatClampNeg) (xs ((v4 + 2) : Int32).toNatClampNeg) μ) fun q191 μ192 =>
  ck (v4 + 1) L <|
  ck (v4 + 2) L <|
  bn (X4_rename (xs ((v4 + 1) : Int32).toNatClampNeg) (xs ((v4 + 2) : Int32).toNatClampNeg) μ192) fun q197 μ198 =>
  (X4_thrown μ198).bind fun q200 =>
  (if q200 = q191 then (if q191 = 0 then (if (lg_cmp (mOut μ198) (q197).toInt64) = 0 then some μ198 else none) else some μ198) else none)
theorem ok_L_law_j1135 {l : Launch} {p : Program} {e : Env} {s : State} {m : MethodId} {args : Array Value} {below : List Frame} {meth : Method} {c : Code} {D : va_G} {cI cL : ClassId} {ad : Nat → Nat} {A : Nat → Prop} {Q : State → Prop} {bS cs sl : Nat} {ret9 : Option FieldType} (C : CX p l s m args meth c RL cL_law 9 ret9 D cI cL A) {r : Mm} {xs : Nat → Int32} {L : Nat} {v4 : Int32} (hex : NcX s ∧ va_X bS L xs s s.heap ∧ bS < s.heap.size ∧ ¬ A bS ∧ cs + 1 ≤ 1088 ∧ sl + 6 ≤ 13600) (hk : AW p l e room_1 s m args below meth c 9 D cI cL ad A (cs + 1) (sl + 6) Q 1710 [(0, .ref bS), (1, .ref (ad 0)), (2, .ref (ad 45)), (3, .ref (ad 54)), (4, .int v4)] [] r) {μ : Mm}  (h : L_law_j1135 xs L v4 μ = some r) : AW p l e room_1 s m args below meth c 9 D cI cL ad A cs sl Q 1135 [(0, .ref bS), (1, .ref (ad 0)), (2, .ref (ad 45)), (3, .ref (ad 54)), (4, .int v4)] [] μ := by
  unfold L_law_j1135 at h
  refine aw_aload_n (pc := 1135) C dL_law_1135 rfl 1 rfl ?_
  refine aw_aload_n (pc := 1136) C dL_law_1136 rfl 0 rfl ?_
  refine aw_iload (pc := 1137) C dL_law_1137 4 rfl ?_
  refine aw_iconst (pc := 1139) C (v := 1) dL_law_1139 rfl ?_
  refine aw_iadd (pc := 1140) C dL_law_1140 ?_
  obtain ⟨g189, h⟩ := ck_some h
  refine aw_sld (pc := 1141) C hex.2.1 hex.2.2.1 hex.2.2.2.1 g189 dL_law_1141 ?_
  refine aw_aload_n (pc := 1142) C dL_law_1142 rfl 0 rfl ?_
  refine aw_iload (pc := 1143) C dL_law_1143 4 rfl ?_
  refine aw_iconst (pc := 1145) C (v := 2) dL_law_1145 rfl ?_
  refine aw_iadd (pc := 1146) C dL_law_1146 ?_
  obtain ⟨g190, h⟩ := ck_some h
  refine aw_sld (pc := 1147) C hex.2.1 hex.2.2.1 hex.2.2.2.1 g190 dL_law_1147 ?_
  refine aw_aload_n (pc := 1148) C dL_law_1148 rfl 3 rfl ?_
  obtain ⟨q191, μ192, hq193, h⟩ := bn_some h
  refine aw_W (pc := 1149) (Bs := [.ref (ad 0), .int (xs ((v4 + 1) : Int32).toNatClampNeg), .int (xs ((v4 + 2) : Int32).toNatClampNeg), .ref (ad 54)]) C hex.1 (ok_L_rename C.tr hq193) kw_L_rename q668 rfl rfl dL_law_1149 ⟨(show 9 ≤ 15 by decide), (show 272 ≤ 578 by decide)⟩ ⟨hex.2.2.2.2.1, hex.2.2.2.2.2⟩ [] (Nat.le_of_ble_eq_true rfl) rfl ?_
  refine aw_istore (pc := 1152) C (x := q191) (lv' := [(5, .int q191), (0, .ref bS), (1, .ref (ad 0)), (2, .ref (ad 45)), (3, .ref (ad 54)), (4, .int v4)]) dL_law_1152 (by decide) rfl rfl ?_
  refine aw_aload_n (pc := 1154) C dL_law_1154 rfl 3 rfl ?_
  refine aw_aload_n (pc := 1155) C dL_law_1155 rfl 1 rfl ?_
  refine aw_iload (pc := 1156) C dL_law_1156 5 rfl ?_
  refine aw_iconst (pc := 1158) C (v := 1) dL_law_1158 rfl ?_
  refine aw_iadd (pc := 1159) C dL_law_1159 ?_
  obtain ⟨g194, h⟩ := ck_some h
  refine aw_sld (pc := 1160) C hex.2.1 hex.2.2.1 hex.2.2.2.1 g194 dL_law_1160 ?_
  refine aw_aload_n (pc := 1161) C dL_law_1161 rfl 1 rfl ?_
  refine aw_iload (pc := 1162) C dL_law_1162 5 rfl ?_
  refine aw_iconst (pc := 1164) C (v := 2) dL_law_1164 rfl ?_
  refine aw_iadd (pc := 1165) C dL_law_1165 ?_
  obtain ⟨g195, h⟩ := ck_some h
  refine aw_sld (pc := 1166) C hex.2.1 hex.2.2.1 hex.2.2.2.1 g195 dL_law_1166 ?_
  obtain ⟨q197, μ198, hq196, h⟩ := bn_some h
  refine aw_Vi (pc := 1167) (a := 45) (Bs := [.int (xs ((v4 + 1) : Int32).toNatClampNeg), .int (xs ((v4 + 2) : Int32).toNatClampNeg)]) C (ok_X4_rename C.tr hq196) kv_X4_rename q1045 rfl rfl rfl rfl dL_law_1167 ⟨(show 11 ≤ 15 by decide), (show 332 ≤ 578 by decide)⟩ ⟨(by have h9 := hex.2.2.2.2.1; show _ ≤ 1088; omega), (by have h9 := hex.2.2.2.2.2; show _ ≤ 13600; omega)⟩ [] (Nat.le_of_ble_eq_true rfl) rfl ?_
  refine aw_istore (pc := 1170) C (x := q197) (lv' := [(6, .int q197), (5, .int q191), (0, .ref bS), (1, .ref (ad 0)), (2, .ref (ad 45)), (3, .ref (ad 54)), (4, .int v4)]) dL_law_1170 (by decide) rfl rfl ?_
  refine aw_aload_n (pc := 1172) C dL_law_1172 rfl 4 rfl ?_
  obtain ⟨q200, hq199, h⟩ := bi_some h
  refine aw_Vi (pc := 1173) (a := 45) (Bs := []) C (ok_X4_thrown C.tr hq199) kv_X4_thrown q819 rfl rfl rfl rfl dL_law_1173 ⟨(show 1 ≤ 15 by decide), (show 20 ≤ 578 by decide)⟩ ⟨(by have h9 := hex.2.2.2.2.1; show _ ≤ 1088; omega), (by have h9 := hex.2.2.2.2.2; show _ ≤ 13600; omega)⟩ [] (Nat.le_of_ble_eq_true rfl) rfl ?_
  refine aw_iload (pc := 1176) C dL_law_1176 1 rfl ?_
  refine aw_icmp_eq (pc := 1178) C 1183 dL_law_1178 rfl (fun hc => ?_) (fun hc => ?_)
  · replace h := ite_T h hc
    refine aw_iload (pc := 1183) C dL_law_1183 1 rfl ?_
    refine aw_if_ne (pc := 1185) C 1200 dL_law_1185 rfl (fun hc => ?_) (fun hc => ?_)
    · replace h := ite_F h hc
      refine aw_goto (pc := 1200) C 1710 dL_law_1200 rfl ?_
      cases h
      refine aw_sub [2, 3, 4, 5, 6] rfl ?_
      exact hk
    · replace h := ite_T h hc
      refine aw_aload_n (pc := 1188) C dL_law_1188 rfl 5 rfl ?_
      refine aw_iconst (pc := 1189) C (v := 0) dL_law_1189 rfl ?_
      refine aw_laload (pc := 1190) C (a := 54) (n := 1) rfl rfl dL_law_1190 ?_
      refine aw_iload (pc := 1191) C dL_law_1191 0 rfl ?_
      refine aw_i2l (pc := 1193) C dL_law_1193 ?_
      refine aw_lcmp (pc := 1194) C dL_law_1194 ?_
      refine aw_if_eq (pc := 1195) C 1200 dL_law_1195 rfl (fun hc => ?_) (fun hc => ?_)
      · replace h := ite_T h hc
        refine aw_goto (pc := 1200) C 1710 dL_law_1200 rfl ?_
        cases h
        refine aw_sub [2, 3, 4, 5, 6] rfl ?_
        exact hk
      · replace h := ite_F h hc
        cases h
  · replace h := ite_F h hc
    cases h
noncomputable def L_law_j1203 (xs : Nat → Int32) (L : Nat) (v4 : Int32) (μ : Mm) : Option Mm :=
  ck (v4 + 1) L <|
  ck (v4 + 2) L <|
  ck (v4 + 3) L <|
  bn (L_ifRenamed (xs ((v4 + 1) : Int32).toNatClampNeg) (xs ((v4 + 2) : Int32).toNatClampNeg) (xs ((v4 + 3) : Int32).toNatClampNeg) μ) fun q205 μ206 =>
  ck (v4 + 1) L <|
  ck (v4 + 2) L <|
  ck (v4 + 3) L <|
  bn (X4_ifRenamed (xs ((v4 + 1) : Int32).toNatClampNeg) (xs ((v4 + 2) : Int32).toNatClampNeg) (xs ((v4 + 3) : Int32).toNatClampNeg) μ206) fun q212 μ213 =>
  (X4_thrown μ213).bind fun q215 =>
  (if q215 = q205 then (if q205 = 0 then (if (lg_cmp (mOut μ213) (q212).toInt64) = 0 then some μ213 else none) else some μ213) else none)
theorem ok_L_law_j1203 {l : Launch} {p : Program} {e : Env} {s : State} {m : MethodId} {args : Array Value} {below : List Frame} {meth : Method} {c : Code} {D : va_G} {cI cL : ClassId} {ad : Nat → Nat} {A : Nat → Prop} {Q : State → Prop} {bS cs sl : Nat} {ret9 : Option FieldType} (C : CX p l s m args meth c RL cL_law 9 ret9 D cI cL A) {r : Mm} {xs : Nat → Int32} {L : Nat} {v4 : Int32} (hex : NcX s ∧ va_X bS L xs s s.heap ∧ bS < s.heap.size ∧ ¬ A bS ∧ cs + 1 ≤ 1088 ∧ sl + 6 ≤ 13600) (hk : AW p l e room_1 s m args below meth c 9 D cI cL ad A (cs + 1) (sl + 6) Q 1710 [(0, .ref bS), (1, .ref (ad 0)), (2, .ref (ad 45)), (3, .ref (ad 54)), (4, .int v4)] [] r) {μ : Mm}  (h : L_law_j1203 xs L v4 μ = some r) : AW p l e room_1 s m args below meth c 9 D cI cL ad A cs sl Q 1203 [(0, .ref bS), (1, .ref (ad 0)), (2, .ref (ad 45)), (3, .ref (ad 54)), (4, .int v4)] [] μ := by
  unfold L_law_j1203 at h
  refine aw_aload_n (pc := 1203) C dL_law_1203 rfl 1 rfl ?_
  refine aw_aload_n (pc := 1204) C dL_law_1204 rfl 0 rfl ?_
  refine aw_iload (pc := 1205) C dL_law_1205 4 rfl ?_
  refine aw_iconst (pc := 1207) C (v := 1) dL_law_1207 rfl ?_
  refine aw_iadd (pc := 1208) C dL_law_1208 ?_
  obtain ⟨g202, h⟩ := ck_some h
  refine aw_sld (pc := 1209) C hex.2.1 hex.2.2.1 hex.2.2.2.1 g202 dL_law_1209 ?_
  refine aw_aload_n (pc := 1210) C dL_law_1210 rfl 0 rfl ?_
  refine aw_iload (pc := 1211) C dL_law_1211 4 rfl ?_
  refine aw_iconst (pc := 1213) C (v := 2) dL_law_1213 rfl ?_
  refine aw_iadd (pc := 1214) C dL_law_1214 ?_
  obtain ⟨g203, h⟩ := ck_some h
  refine aw_sld (pc := 1215) C hex.2.1 hex.2.2.1 hex.2.2.2.1 g203 dL_law_1215 ?_
  refine aw_aload_n (pc := 1216) C dL_law_1216 rfl 0 rfl ?_
  refine aw_iload (pc := 1217) C dL_law_1217 4 rfl ?_
  refine aw_iconst (pc := 1219) C (v := 3) dL_law_1219 rfl ?_
  refine aw_iadd (pc := 1220) C dL_law_1220 ?_
  obtain ⟨g204, h⟩ := ck_some h
  refine aw_sld (pc := 1221) C hex.2.1 hex.2.2.1 hex.2.2.2.1 g204 dL_law_1221 ?_
  refine aw_aload_n (pc := 1222) C dL_law_1222 rfl 3 rfl ?_
  obtain ⟨q205, μ206, hq207, h⟩ := bn_some h
  refine aw_W (pc := 1223) (Bs := [.ref (ad 0), .int (xs ((v4 + 1) : Int32).toNatClampNeg), .int (xs ((v4 + 2) : Int32).toNatClampNeg), .int (xs ((v4 + 3) : Int32).toNatClampNeg), .ref (ad 54)]) C hex.1 (ok_L_ifRenamed C.tr hq207) kw_L_ifRenamed q691 rfl rfl dL_law_1223 ⟨(show 9 ≤ 15 by decide), (show 273 ≤ 578 by decide)⟩ ⟨hex.2.2.2.2.1, hex.2.2.2.2.2⟩ [] (Nat.le_of_ble_eq_true rfl) rfl ?_
  refine aw_istore (pc := 1226) C (x := q205) (lv' := [(5, .int q205), (0, .ref bS), (1, .ref (ad 0)), (2, .ref (ad 45)), (3, .ref (ad 54)), (4, .int v4)]) dL_law_1226 (by decide) rfl rfl ?_
  refine aw_aload_n (pc := 1228) C dL_law_1228 rfl 3 rfl ?_
  refine aw_aload_n (pc := 1229) C dL_law_1229 rfl 1 rfl ?_
  refine aw_iload (pc := 1230) C dL_law_1230 5 rfl ?_
  refine aw_iconst (pc := 1232) C (v := 1) dL_law_1232 rfl ?_
  refine aw_iadd (pc := 1233) C dL_law_1233 ?_
  obtain ⟨g208, h⟩ := ck_some h
  refine aw_sld (pc := 1234) C hex.2.1 hex.2.2.1 hex.2.2.2.1 g208 dL_law_1234 ?_
  refine aw_aload_n (pc := 1235) C dL_law_1235 rfl 1 rfl ?_
  refine aw_iload (pc := 1236) C dL_law_1236 5 rfl ?_
  refine aw_iconst (pc := 1238) C (v := 2) dL_law_1238 rfl ?_
  refine aw_iadd (pc := 1239) C dL_law_1239 ?_
  obtain ⟨g209, h⟩ := ck_some h
  refine aw_sld (pc := 1240) C hex.2.1 hex.2.2.1 hex.2.2.2.1 g209 dL_law_1240 ?_
  refine aw_aload_n (pc := 1241) C dL_law_1241 rfl 1 rfl ?_
  refine aw_iload (pc := 1242) C dL_law_1242 5 rfl ?_
  refine aw_iconst (pc := 1244) C (v := 3) dL_law_1244 rfl ?_
  refine aw_iadd (pc := 1245) C dL_law_1245 ?_
  obtain ⟨g210, h⟩ := ck_some h
  refine aw_sld (pc := 1246) C hex.2.1 hex.2.2.1 hex.2.2.2.1 g210 dL_law_1246 ?_
  obtain ⟨q212, μ213, hq211, h⟩ := bn_some h
  refine aw_Vi (pc := 1247) (a := 45) (Bs := [.int (xs ((v4 + 1) : Int32).toNatClampNeg), .int (xs ((v4 + 2) : Int32).toNatClampNeg), .int (xs ((v4 + 3) : Int32).toNatClampNeg)]) C (ok_X4_ifRenamed C.tr hq211) kv_X4_ifRenamed q1061 rfl rfl rfl rfl dL_law_1247 ⟨(show 11 ≤ 15 by decide), (show 334 ≤ 578 by decide)⟩ ⟨(by have h9 := hex.2.2.2.2.1; show _ ≤ 1088; omega), (by have h9 := hex.2.2.2.2.2; show _ ≤ 13600; omega)⟩ [] (Nat.le_of_ble_eq_true rfl) rfl ?_
  refine aw_istore (pc := 1250) C (x := q212) (lv' := [(6, .int q212), (5, .int q205), (0, .ref bS), (1, .ref (ad 0)), (2, .ref (ad 45)), (3, .ref (ad 54)), (4, .int v4)]) dL_law_1250 (by decide) rfl rfl ?_
  refine aw_aload_n (pc := 1252) C dL_law_1252 rfl 4 rfl ?_
  obtain ⟨q215, hq214, h⟩ := bi_some h
  refine aw_Vi (pc := 1253) (a := 45) (Bs := []) C (ok_X4_thrown C.tr hq214) kv_X4_thrown q819 rfl rfl rfl rfl dL_law_1253 ⟨(show 1 ≤ 15 by decide), (show 20 ≤ 578 by decide)⟩ ⟨(by have h9 := hex.2.2.2.2.1; show _ ≤ 1088; omega), (by have h9 := hex.2.2.2.2.2; show _ ≤ 13600; omega)⟩ [] (Nat.le_of_ble_eq_true rfl) rfl ?_
  refine aw_iload (pc := 1256) C dL_law_1256 1 rfl ?_
  refine aw_icmp_eq (pc := 1258) C 1263 dL_law_1258 rfl (fun hc => ?_) (fun hc => ?_)
  · replace h := ite_T h hc
    refine aw_iload (pc := 1263) C dL_law_1263 1 rfl ?_
    refine aw_if_ne (pc := 1265) C 1280 dL_law_1265 rfl (fun hc => ?_) (fun hc => ?_)
    · replace h := ite_F h hc
      refine aw_goto (pc := 1280) C 1710 dL_law_1280 rfl ?_
      cases h
      refine aw_sub [2, 3, 4, 5, 6] rfl ?_
      exact hk
    · replace h := ite_T h hc
      refine aw_aload_n (pc := 1268) C dL_law_1268 rfl 5 rfl ?_
      refine aw_iconst (pc := 1269) C (v := 0) dL_law_1269 rfl ?_
      refine aw_laload (pc := 1270) C (a := 54) (n := 1) rfl rfl dL_law_1270 ?_
      refine aw_iload (pc := 1271) C dL_law_1271 0 rfl ?_
      refine aw_i2l (pc := 1273) C dL_law_1273 ?_
      refine aw_lcmp (pc := 1274) C dL_law_1274 ?_
      refine aw_if_eq (pc := 1275) C 1280 dL_law_1275 rfl (fun hc => ?_) (fun hc => ?_)
      · replace h := ite_T h hc
        refine aw_goto (pc := 1280) C 1710 dL_law_1280 rfl ?_
        cases h
        refine aw_sub [2, 3, 4, 5, 6] rfl ?_
        exact hk
      · replace h := ite_F h hc
        cases h
  · replace h := ite_F h hc
    cases h
noncomputable def L_law_j1283 (xs : Nat → Int32) (L : Nat) (v4 : Int32) (μ : Mm) : Option Mm :=
  ck (v4 + 1) L <|
  bn (L_freeName (xs ((v4 + 1) : Int32).toNatClampNeg) μ) fun q218 μ219 =>
  ck (v4 + 1) L <|
  bn (X4_freeName (xs ((v4 + 1) : Int32).toNatClampNeg) μ219) fun q223 μ224 =>
  (X4_thrown μ224).bind fun q226 =>
  (if q226 = q218 then (if q218 = 0 then (if (lg_cmp (mOut μ224) (q223).toInt64) = 0 then some μ224 else none) else some μ224) else none)
theorem ok_L_law_j1283 {l : Launch} {p : Program} {e : Env} {s : State} {m : MethodId} {args : Array Value} {below : List Frame} {meth : Method} {c : Code} {D : va_G} {cI cL : ClassId} {ad : Nat → Nat} {A : Nat → Prop} {Q : State → Prop} {bS cs sl : Nat} {ret9 : Option FieldType} (C : CX p l s m args meth c RL cL_law 9 ret9 D cI cL A) {r : Mm} {xs : Nat → Int32} {L : Nat} {v4 : Int32} (hex : NcX s ∧ va_X bS L xs s s.heap ∧ bS < s.heap.size ∧ ¬ A bS ∧ cs + 1 ≤ 1088 ∧ sl + 6 ≤ 13600) (hk : AW p l e room_1 s m args below meth c 9 D cI cL ad A (cs + 1) (sl + 6) Q 1710 [(0, .ref bS), (1, .ref (ad 0)), (2, .ref (ad 45)), (3, .ref (ad 54)), (4, .int v4)] [] r) {μ : Mm}  (h : L_law_j1283 xs L v4 μ = some r) : AW p l e room_1 s m args below meth c 9 D cI cL ad A cs sl Q 1283 [(0, .ref bS), (1, .ref (ad 0)), (2, .ref (ad 45)), (3, .ref (ad 54)), (4, .int v4)] [] μ := by
  unfold L_law_j1283 at h
  refine aw_aload_n (pc := 1283) C dL_law_1283 rfl 1 rfl ?_
  refine aw_aload_n (pc := 1284) C dL_law_1284 rfl 0 rfl ?_
  refine aw_iload (pc := 1285) C dL_law_1285 4 rfl ?_
  refine aw_iconst (pc := 1287) C (v := 1) dL_law_1287 rfl ?_
  refine aw_iadd (pc := 1288) C dL_law_1288 ?_
  obtain ⟨g217, h⟩ := ck_some h
  refine aw_sld (pc := 1289) C hex.2.1 hex.2.2.1 hex.2.2.2.1 g217 dL_law_1289 ?_
  refine aw_aload_n (pc := 1290) C dL_law_1290 rfl 3 rfl ?_
  obtain ⟨q218, μ219, hq220, h⟩ := bn_some h
  refine aw_W (pc := 1291) (Bs := [.ref (ad 0), .int (xs ((v4 + 1) : Int32).toNatClampNeg), .ref (ad 54)]) C hex.1 (ok_L_freeName C.tr hq220) kw_L_freeName q703 rfl rfl dL_law_1291 ⟨(show 9 ≤ 15 by decide), (show 271 ≤ 578 by decide)⟩ ⟨hex.2.2.2.2.1, hex.2.2.2.2.2⟩ [] (Nat.le_of_ble_eq_true rfl) rfl ?_
  refine aw_istore (pc := 1294) C (x := q218) (lv' := [(5, .int q218), (0, .ref bS), (1, .ref (ad 0)), (2, .ref (ad 45)), (3, .ref (ad 54)), (4, .int v4)]) dL_law_1294 (by decide) rfl rfl ?_
  refine aw_aload_n (pc := 1296) C dL_law_1296 rfl 3 rfl ?_
  refine aw_aload_n (pc := 1297) C dL_law_1297 rfl 1 rfl ?_
  refine aw_iload (pc := 1298) C dL_law_1298 5 rfl ?_
  refine aw_iconst (pc := 1300) C (v := 1) dL_law_1300 rfl ?_
  refine aw_iadd (pc := 1301) C dL_law_1301 ?_
  obtain ⟨g221, h⟩ := ck_some h
  refine aw_sld (pc := 1302) C hex.2.1 hex.2.2.1 hex.2.2.2.1 g221 dL_law_1302 ?_
  obtain ⟨q223, μ224, hq222, h⟩ := bn_some h
  refine aw_Vi (pc := 1303) (a := 45) (Bs := [.int (xs ((v4 + 1) : Int32).toNatClampNeg)]) C (ok_X4_freeName C.tr hq222) kv_X4_freeName q1065 rfl rfl rfl rfl dL_law_1303 ⟨(show 11 ≤ 15 by decide), (show 332 ≤ 578 by decide)⟩ ⟨(by have h9 := hex.2.2.2.2.1; show _ ≤ 1088; omega), (by have h9 := hex.2.2.2.2.2; show _ ≤ 13600; omega)⟩ [] (Nat.le_of_ble_eq_true rfl) rfl ?_
  refine aw_istore (pc := 1306) C (x := q223) (lv' := [(6, .int q223), (5, .int q218), (0, .ref bS), (1, .ref (ad 0)), (2, .ref (ad 45)), (3, .ref (ad 54)), (4, .int v4)]) dL_law_1306 (by decide) rfl rfl ?_
  refine aw_aload_n (pc := 1308) C dL_law_1308 rfl 4 rfl ?_
  obtain ⟨q226, hq225, h⟩ := bi_some h
  refine aw_Vi (pc := 1309) (a := 45) (Bs := []) C (ok_X4_thrown C.tr hq225) kv_X4_thrown q819 rfl rfl rfl rfl dL_law_1309 ⟨(show 1 ≤ 15 by decide), (show 20 ≤ 578 by decide)⟩ ⟨(by have h9 := hex.2.2.2.2.1; show _ ≤ 1088; omega), (by have h9 := hex.2.2.2.2.2; show _ ≤ 13600; omega)⟩ [] (Nat.le_of_ble_eq_true rfl) rfl ?_
  refine aw_iload (pc := 1312) C dL_law_1312 1 rfl ?_
  refine aw_icmp_eq (pc := 1314) C 1319 dL_law_1314 rfl (fun hc => ?_) (fun hc => ?_)
  · replace h := ite_T h hc
    refine aw_iload (pc := 1319) C dL_law_1319 1 rfl ?_
    refine aw_if_ne (pc := 1321) C 1336 dL_law_1321 rfl (fun hc => ?_) (fun hc => ?_)
    · replace h := ite_F h hc
      refine aw_goto (pc := 1336) C 1710 dL_law_1336 rfl ?_
      cases h
      refine aw_sub [2, 3, 4, 5, 6] rfl ?_
      exact hk
    · replace h := ite_T h hc
      refine aw_aload_n (pc := 1324) C dL_law_1324 rfl 5 rfl ?_
      refine aw_iconst (pc := 1325) C (v := 0) dL_law_1325 rfl ?_
      refine aw_laload (pc := 1326) C (a := 54) (n := 1) rfl rfl dL_law_1326 ?_
      refine aw_iload (pc := 1327) C dL_law_1327 0 rfl ?_
      refine aw_i2l (pc := 1329) C dL_law_1329 ?_
      refine aw_lcmp (pc := 1330) C dL_law_1330 ?_
      refine aw_if_eq (pc := 1331) C 1336 dL_law_1331 rfl (fun hc => ?_) (fun hc => ?_)
      · replace h := ite_T h hc
        refine aw_goto (pc := 1336) C 1710 dL_law_1336 rfl ?_
        cases h
        refine aw_sub [2, 3, 4, 5, 6] rfl ?_
        exact hk
      · replace h := ite_F h hc
        cases h
  · replace h := ite_F h hc
    cases h
noncomputable def L_law_j1339 (xs : Nat → Int32) (L : Nat) (v4 : Int32) (μ : Mm) : Option Mm :=
  ck (v4 + 1) L <|
  bn (L_count (xs ((v4 + 1) : Int32).toNatClampNeg) μ) fun q229 μ230 =>
  ck (v4 + 1) L <|
  bn (X4_count (xs ((v4 + 1) : Int32).toNatClampNeg) μ230) fun q234 μ235 =>
  (X4_thrown μ235).bind fun q237 =>
  (if q237 = q229 then (if q229 = 0 then (if (lg_cmp (mOut μ235) (q234).toInt64) = 0 then some μ235 else none) else some μ235) else none)
theorem ok_L_law_j1339 {l : Launch} {p : Program} {e : Env} {s : State} {m : MethodId} {args : Array Value} {below : List Frame} {meth : Method} {c : Code} {D : va_G} {cI cL : ClassId} {ad : Nat → Nat} {A : Nat → Prop} {Q : State → Prop} {bS cs sl : Nat} {ret9 : Option FieldType} (C : CX p l s m args meth c RL cL_law 9 ret9 D cI cL A) {r : Mm} {xs : Nat → Int32} {L : Nat} {v4 : Int32} (hex : NcX s ∧ va_X bS L xs s s.heap ∧ bS < s.heap.size ∧ ¬ A bS ∧ cs + 1 ≤ 1088 ∧ sl + 6 ≤ 13600) (hk : AW p l e room_1 s m args below meth c 9 D cI cL ad A (cs + 1) (sl + 6) Q 1710 [(0, .ref bS), (1, .ref (ad 0)), (2, .ref (ad 45)), (3, .ref (ad 54)), (4, .int v4)] [] r) {μ : Mm}  (h : L_law_j1339 xs L v4 μ = some r) : AW p l e room_1 s m args below meth c 9 D cI cL ad A cs sl Q 1339 [(0, .ref bS), (1, .ref (ad 0)), (2, .ref (ad 45)), (3, .ref (ad 54)), (4, .int v4)] [] μ := by
  unfold L_law_j1339 at h
  refine aw_aload_n (pc := 1339) C dL_law_1339 rfl 1 rfl ?_
  refine aw_aload_n (pc := 1340) C dL_law_1340 rfl 0 rfl ?_
  refine aw_iload (pc := 1341) C dL_law_1341 4 rfl ?_
  refine aw_iconst (pc := 1343) C (v := 1) dL_law_1343 rfl ?_
  refine aw_iadd (pc := 1344) C dL_law_1344 ?_
  obtain ⟨g228, h⟩ := ck_some h
  refine aw_sld (pc := 1345) C hex.2.1 hex.2.2.1 hex.2.2.2.1 g228 dL_law_1345 ?_
  refine aw_aload_n (pc := 1346) C dL_law_1346 rfl 3 rfl ?_
  obtain ⟨q229, μ230, hq231, h⟩ := bn_some h
  refine aw_W (pc := 1347) (Bs := [.ref (ad 0), .int (xs ((v4 + 1) : Int32).toNatClampNeg), .ref (ad 54)]) C hex.1 (ok_L_count C.tr hq231) kw_L_count q710 rfl rfl dL_law_1347 ⟨(show 9 ≤ 15 by decide), (show 271 ≤ 578 by decide)⟩ ⟨hex.2.2.2.2.1, hex.2.2.2.2.2⟩ [] (Nat.le_of_ble_eq_true rfl) rfl ?_
  refine aw_istore (pc := 1350) C (x := q229) (lv' := [(5, .int q229), (0, .ref bS), (1, .ref (ad 0)), (2, .ref (ad 45)), (3, .ref (ad 54)), (4, .int v4)]) dL_law_1350 (by decide) rfl rfl ?_
  refine aw_aload_n (pc := 1352) C dL_law_1352 rfl 3 rfl ?_
  refine aw_aload_n (pc := 1353) C dL_law_1353 rfl 1 rfl ?_
  refine aw_iload (pc := 1354) C dL_law_1354 5 rfl ?_
  refine aw_iconst (pc := 1356) C (v := 1) dL_law_1356 rfl ?_
  refine aw_iadd (pc := 1357) C dL_law_1357 ?_
  obtain ⟨g232, h⟩ := ck_some h
  refine aw_sld (pc := 1358) C hex.2.1 hex.2.2.1 hex.2.2.2.1 g232 dL_law_1358 ?_
  obtain ⟨q234, μ235, hq233, h⟩ := bn_some h
  refine aw_Vi (pc := 1359) (a := 45) (Bs := [.int (xs ((v4 + 1) : Int32).toNatClampNeg)]) C (ok_X4_count C.tr hq233) kv_X4_count q1069 rfl rfl rfl rfl dL_law_1359 ⟨(show 13 ≤ 15 by decide), (show 393 ≤ 578 by decide)⟩ ⟨(by have h9 := hex.2.2.2.2.1; show _ ≤ 1088; omega), (by have h9 := hex.2.2.2.2.2; show _ ≤ 13600; omega)⟩ [] (Nat.le_of_ble_eq_true rfl) rfl ?_
  refine aw_istore (pc := 1362) C (x := q234) (lv' := [(6, .int q234), (5, .int q229), (0, .ref bS), (1, .ref (ad 0)), (2, .ref (ad 45)), (3, .ref (ad 54)), (4, .int v4)]) dL_law_1362 (by decide) rfl rfl ?_
  refine aw_aload_n (pc := 1364) C dL_law_1364 rfl 4 rfl ?_
  obtain ⟨q237, hq236, h⟩ := bi_some h
  refine aw_Vi (pc := 1365) (a := 45) (Bs := []) C (ok_X4_thrown C.tr hq236) kv_X4_thrown q819 rfl rfl rfl rfl dL_law_1365 ⟨(show 1 ≤ 15 by decide), (show 20 ≤ 578 by decide)⟩ ⟨(by have h9 := hex.2.2.2.2.1; show _ ≤ 1088; omega), (by have h9 := hex.2.2.2.2.2; show _ ≤ 13600; omega)⟩ [] (Nat.le_of_ble_eq_true rfl) rfl ?_
  refine aw_iload (pc := 1368) C dL_law_1368 1 rfl ?_
  refine aw_icmp_eq (pc := 1370) C 1375 dL_law_1370 rfl (fun hc => ?_) (fun hc => ?_)
  · replace h := ite_T h hc
    refine aw_iload (pc := 1375) C dL_law_1375 1 rfl ?_
    refine aw_if_ne (pc := 1377) C 1392 dL_law_1377 rfl (fun hc => ?_) (fun hc => ?_)
    · replace h := ite_F h hc
      refine aw_goto (pc := 1392) C 1710 dL_law_1392 rfl ?_
      cases h
      refine aw_sub [2, 3, 4, 5, 6] rfl ?_
      exact hk
    · replace h := ite_T h hc
      refine aw_aload_n (pc := 1380) C dL_law_1380 rfl 5 rfl ?_
      refine aw_iconst (pc := 1381) C (v := 0) dL_law_1381 rfl ?_
      refine aw_laload (pc := 1382) C (a := 54) (n := 1) rfl rfl dL_law_1382 ?_
      refine aw_iload (pc := 1383) C dL_law_1383 0 rfl ?_
      refine aw_i2l (pc := 1385) C dL_law_1385 ?_
      refine aw_lcmp (pc := 1386) C dL_law_1386 ?_
      refine aw_if_eq (pc := 1387) C 1392 dL_law_1387 rfl (fun hc => ?_) (fun hc => ?_)
      · replace h := ite_T h hc
        refine aw_goto (pc := 1392) C 1710 dL_law_1392 rfl ?_
        cases h
        refine aw_sub [2, 3, 4, 5, 6] rfl ?_
        exact hk
      · replace h := ite_F h hc
        cases h
  · replace h := ite_F h hc
    cases h
noncomputable def L_law_j1395 (xs : Nat → Int32) (L : Nat) (v4 : Int32) (μ : Mm) : Option Mm :=
  ck (v4 + 1) L <|
  ck (v4 + 2) L <|
  bn (L_declaration (xs ((v4 + 1) : Int32).toNatClampNeg) (xs ((v4 + 2) : Int32).toNatClampNeg) μ) fun q241 μ242 =>
  ck (v4 + 1) L <|
  ck (v4 + 2) L <|
  bn (X4_declaration (xs ((v4 + 1) : Int32).toNatClampNeg) (xs ((v4 + 2) : Int32).toNatClampNeg) μ242) fun q247 μ248 =>
  (X4_thrown μ248).bind fun q250 =>
  (if q250 = q241 then (if q241 = 0 then (if (lg_cmp (mOut μ248) (q247).toInt64) = 0 then some μ248 else none) else some μ248) else none)
theorem ok_L_law_j1395 {l : Launch} {p : Program} {e : Env} {s : State} {m : MethodId} {args : Array Value} {below : List Frame} {meth : Method} {c : Code} {D : va_G} {cI cL : ClassId} {ad : Nat → Nat} {A : Nat → Prop} {Q : State → Prop} {bS cs sl : Nat} {ret9 : Option FieldType} (C : CX p l s m args meth c RL cL_law 9 ret9 D cI cL A) {r : Mm} {xs : Nat → Int32} {L : Nat} {v4 : Int32} (hex : NcX s ∧ va_X bS L xs s s.heap ∧ bS < s.heap.size ∧ ¬ A bS ∧ cs + 1 ≤ 1088 ∧ sl + 6 ≤ 13600) (hk : AW p l e room_1 s m args below meth c 9 D cI cL ad A (cs + 1) (sl + 6) Q 1710 [(0, .ref bS), (1, .ref (ad 0)), (2, .ref (ad 45)), (3, .ref (ad 54)), (4, .int v4)] [] r) {μ : Mm}  (h : L_law_j1395 xs L v4 μ = some r) : AW p l e room_1 s m args below meth c 9 D cI cL ad A cs sl Q 1395 [(0, .ref bS), (1, .ref (ad 0)), (2, .ref (ad 45)), (3, .ref (ad 54)), (4, .int v4)] [] μ := by
  unfold L_law_j1395 at h
  refine aw_aload_n (pc := 1395) C dL_law_1395 rfl 1 rfl ?_
  refine aw_aload_n (pc := 1396) C dL_law_1396 rfl 0 rfl ?_
  refine aw_iload (pc := 1397) C dL_law_1397 4 rfl ?_
  refine aw_iconst (pc := 1399) C (v := 1) dL_law_1399 rfl ?_
  refine aw_iadd (pc := 1400) C dL_law_1400 ?_
  obtain ⟨g239, h⟩ := ck_some h
  refine aw_sld (pc := 1401) C hex.2.1 hex.2.2.1 hex.2.2.2.1 g239 dL_law_1401 ?_
  refine aw_aload_n (pc := 1402) C dL_law_1402 rfl 0 rfl ?_
  refine aw_iload (pc := 1403) C dL_law_1403 4 rfl ?_
  refine aw_iconst (pc := 1405) C (v := 2) dL_law_1405 rfl ?_
  refine aw_iadd (pc := 1406) C dL_law_1406 ?_
  obtain ⟨g240, h⟩ := ck_some h
  refine aw_sld (pc := 1407) C hex.2.1 hex.2.2.1 hex.2.2.2.1 g240 dL_law_1407 ?_
  refine aw_aload_n (pc := 1408) C dL_law_1408 rfl 3 rfl ?_
  obtain ⟨q241, μ242, hq243, h⟩ := bn_some h
  refine aw_W (pc := 1409) (Bs := [.ref (ad 0), .int (xs ((v4 + 1) : Int32).toNatClampNeg), .int (xs ((v4 + 2) : Int32).toNatClampNeg), .ref (ad 54)]) C hex.1 (ok_L_declaration C.tr hq243) kw_L_declaration q714 rfl rfl dL_law_1409 ⟨(show 9 ≤ 15 by decide), (show 272 ≤ 578 by decide)⟩ ⟨hex.2.2.2.2.1, hex.2.2.2.2.2⟩ [] (Nat.le_of_ble_eq_true rfl) rfl ?_
  refine aw_istore (pc := 1412) C (x := q241) (lv' := [(5, .int q241), (0, .ref bS), (1, .ref (ad 0)), (2, .ref (ad 45)), (3, .ref (ad 54)), (4, .int v4)]) dL_law_1412 (by decide) rfl rfl ?_
  refine aw_aload_n (pc := 1414) C dL_law_1414 rfl 3 rfl ?_
  refine aw_aload_n (pc := 1415) C dL_law_1415 rfl 1 rfl ?_
  refine aw_iload (pc := 1416) C dL_law_1416 5 rfl ?_
  refine aw_iconst (pc := 1418) C (v := 1) dL_law_1418 rfl ?_
  refine aw_iadd (pc := 1419) C dL_law_1419 ?_
  obtain ⟨g244, h⟩ := ck_some h
  refine aw_sld (pc := 1420) C hex.2.1 hex.2.2.1 hex.2.2.2.1 g244 dL_law_1420 ?_
  refine aw_aload_n (pc := 1421) C dL_law_1421 rfl 1 rfl ?_
  refine aw_iload (pc := 1422) C dL_law_1422 5 rfl ?_
  refine aw_iconst (pc := 1424) C (v := 2) dL_law_1424 rfl ?_
  refine aw_iadd (pc := 1425) C dL_law_1425 ?_
  obtain ⟨g245, h⟩ := ck_some h
  refine aw_sld (pc := 1426) C hex.2.1 hex.2.2.1 hex.2.2.2.1 g245 dL_law_1426 ?_
  obtain ⟨q247, μ248, hq246, h⟩ := bn_some h
  refine aw_Vi (pc := 1427) (a := 45) (Bs := [.int (xs ((v4 + 1) : Int32).toNatClampNeg), .int (xs ((v4 + 2) : Int32).toNatClampNeg)]) C (ok_X4_declaration C.tr hq246) kv_X4_declaration q1113 rfl rfl rfl rfl dL_law_1427 ⟨(show 11 ≤ 15 by decide), (show 332 ≤ 578 by decide)⟩ ⟨(by have h9 := hex.2.2.2.2.1; show _ ≤ 1088; omega), (by have h9 := hex.2.2.2.2.2; show _ ≤ 13600; omega)⟩ [] (Nat.le_of_ble_eq_true rfl) rfl ?_
  refine aw_istore (pc := 1430) C (x := q247) (lv' := [(6, .int q247), (5, .int q241), (0, .ref bS), (1, .ref (ad 0)), (2, .ref (ad 45)), (3, .ref (ad 54)), (4, .int v4)]) dL_law_1430 (by decide) rfl rfl ?_
  refine aw_aload_n (pc := 1432) C dL_law_1432 rfl 4 rfl ?_
  obtain ⟨q250, hq249, h⟩ := bi_some h
  refine aw_Vi (pc := 1433) (a := 45) (Bs := []) C (ok_X4_thrown C.tr hq249) kv_X4_thrown q819 rfl rfl rfl rfl dL_law_1433 ⟨(show 1 ≤ 15 by decide), (show 20 ≤ 578 by decide)⟩ ⟨(by have h9 := hex.2.2.2.2.1; show _ ≤ 1088; omega), (by have h9 := hex.2.2.2.2.2; show _ ≤ 13600; omega)⟩ [] (Nat.le_of_ble_eq_true rfl) rfl ?_
  refine aw_iload (pc := 1436) C dL_law_1436 1 rfl ?_
  refine aw_icmp_eq (pc := 1438) C 1443 dL_law_1438 rfl (fun hc => ?_) (fun hc => ?_)
  · replace h := ite_T h hc
    refine aw_iload (pc := 1443) C dL_law_1443 1 rfl ?_
    refine aw_if_ne (pc := 1445) C 1460 dL_law_1445 rfl (fun hc => ?_) (fun hc => ?_)
    · replace h := ite_F h hc
      refine aw_goto (pc := 1460) C 1710 dL_law_1460 rfl ?_
      cases h
      refine aw_sub [2, 3, 4, 5, 6] rfl ?_
      exact hk
    · replace h := ite_T h hc
      refine aw_aload_n (pc := 1448) C dL_law_1448 rfl 5 rfl ?_
      refine aw_iconst (pc := 1449) C (v := 0) dL_law_1449 rfl ?_
      refine aw_laload (pc := 1450) C (a := 54) (n := 1) rfl rfl dL_law_1450 ?_
      refine aw_iload (pc := 1451) C dL_law_1451 0 rfl ?_
      refine aw_i2l (pc := 1453) C dL_law_1453 ?_
      refine aw_lcmp (pc := 1454) C dL_law_1454 ?_
      refine aw_if_eq (pc := 1455) C 1460 dL_law_1455 rfl (fun hc => ?_) (fun hc => ?_)
      · replace h := ite_T h hc
        refine aw_goto (pc := 1460) C 1710 dL_law_1460 rfl ?_
        cases h
        refine aw_sub [2, 3, 4, 5, 6] rfl ?_
        exact hk
      · replace h := ite_F h hc
        cases h
  · replace h := ite_F h hc
    cases h
noncomputable def L_law_j1463 (xs : Nat → Int32) (L : Nat) (v4 : Int32) (μ : Mm) : Option Mm :=
  ck (v4 + 1) L <|
  ck (v4 + 2) L <|
  bn (L_imported (xs ((v4 + 1) : Int32).toNatClampNeg) (xs ((v4 + 2) : Int32).toNatClampNeg) μ) fun q254 μ255 =>
  ck (v4 + 1) L <|
  ck (v4 + 2) L <|
  bn (X4_imported (xs ((v4 + 1) : Int32).toNatClampNeg) (xs ((v4 + 2) : Int32).toNatClampNeg) μ255) fun q260 μ261 =>
  (X4_thrown μ261).bind fun q263 =>
  (if q263 = q254 then (if q254 = 0 then (if (lg_cmp (mOut μ261) (q260).toInt64) = 0 then some μ261 else none) else some μ261) else none)
theorem ok_L_law_j1463 {l : Launch} {p : Program} {e : Env} {s : State} {m : MethodId} {args : Array Value} {below : List Frame} {meth : Method} {c : Code} {D : va_G} {cI cL : ClassId} {ad : Nat → Nat} {A : Nat → Prop} {Q : State → Prop} {bS cs sl : Nat} {ret9 : Option FieldType} (C : CX p l s m args meth c RL cL_law 9 ret9 D cI cL A) {r : Mm} {xs : Nat → Int32} {L : Nat} {v4 : Int32} (hex : NcX s ∧ va_X bS L xs s s.heap ∧ bS < s.heap.size ∧ ¬ A bS ∧ cs + 1 ≤ 1088 ∧ sl + 6 ≤ 13600) (hk : AW p l e room_1 s m args below meth c 9 D cI cL ad A (cs + 1) (sl + 6) Q 1710 [(0, .ref bS), (1, .ref (ad 0)), (2, .ref (ad 45)), (3, .ref (ad 54)), (4, .int v4)] [] r) {μ : Mm}  (h : L_law_j1463 xs L v4 μ = some r) : AW p l e room_1 s m args below meth c 9 D cI cL ad A cs sl Q 1463 [(0, .ref bS), (1, .ref (ad 0)), (2, .ref (ad 45)), (3, .ref (ad 54)), (4, .int v4)] [] μ := by
  unfold L_law_j1463 at h
  refine aw_aload_n (pc := 1463) C dL_law_1463 rfl 1 rfl ?_
  refine aw_aload_n (pc := 1464) C dL_law_1464 rfl 0 rfl ?_
  refine aw_iload (pc := 1465) C dL_law_1465 4 rfl ?_
  refine aw_iconst (pc := 1467) C (v := 1) dL_law_1467 rfl ?_
  refine aw_iadd (pc := 1468) C dL_law_1468 ?_
  obtain ⟨g252, h⟩ := ck_some h
  refine aw_sld (pc := 1469) C hex.2.1 hex.2.2.1 hex.2.2.2.1 g252 dL_law_1469 ?_
  refine aw_aload_n (pc := 1470) C dL_law_1470 rfl 0 rfl ?_
  refine aw_iload (pc := 1471) C dL_law_1471 4 rfl ?_
  refine aw_iconst (pc := 1473) C (v := 2) dL_law_1473 rfl ?_
  refine aw_iadd (pc := 1474) C dL_law_1474 ?_
  obtain ⟨g253, h⟩ := ck_some h
  refine aw_sld (pc := 1475) C hex.2.1 hex.2.2.1 hex.2.2.2.1 g253 dL_law_1475 ?_
  refine aw_aload_n (pc := 1476) C dL_law_1476 rfl 3 rfl ?_
  obtain ⟨q254, μ255, hq256, h⟩ := bn_some h
  refine aw_W (pc := 1477) (Bs := [.ref (ad 0), .int (xs ((v4 + 1) : Int32).toNatClampNeg), .int (xs ((v4 + 2) : Int32).toNatClampNeg), .ref (ad 54)]) C hex.1 (ok_L_imported C.tr hq256) kw_L_imported q718 rfl rfl dL_law_1477 ⟨(show 9 ≤ 15 by decide), (show 272 ≤ 578 by decide)⟩ ⟨hex.2.2.2.2.1, hex.2.2.2.2.2⟩ [] (Nat.le_of_ble_eq_true rfl) rfl ?_
  refine aw_istore (pc := 1480) C (x := q254) (lv' := [(5, .int q254), (0, .ref bS), (1, .ref (ad 0)), (2, .ref (ad 45)), (3, .ref (ad 54)), (4, .int v4)]) dL_law_1480 (by decide) rfl rfl ?_
  refine aw_aload_n (pc := 1482) C dL_law_1482 rfl 3 rfl ?_
  refine aw_aload_n (pc := 1483) C dL_law_1483 rfl 1 rfl ?_
  refine aw_iload (pc := 1484) C dL_law_1484 5 rfl ?_
  refine aw_iconst (pc := 1486) C (v := 1) dL_law_1486 rfl ?_
  refine aw_iadd (pc := 1487) C dL_law_1487 ?_
  obtain ⟨g257, h⟩ := ck_some h
  refine aw_sld (pc := 1488) C hex.2.1 hex.2.2.1 hex.2.2.2.1 g257 dL_law_1488 ?_
  refine aw_aload_n (pc := 1489) C dL_law_1489 rfl 1 rfl ?_
  refine aw_iload (pc := 1490) C dL_law_1490 5 rfl ?_
  refine aw_iconst (pc := 1492) C (v := 2) dL_law_1492 rfl ?_
  refine aw_iadd (pc := 1493) C dL_law_1493 ?_
  obtain ⟨g258, h⟩ := ck_some h
  refine aw_sld (pc := 1494) C hex.2.1 hex.2.2.1 hex.2.2.2.1 g258 dL_law_1494 ?_
  obtain ⟨q260, μ261, hq259, h⟩ := bn_some h
  refine aw_Vi (pc := 1495) (a := 45) (Bs := [.int (xs ((v4 + 1) : Int32).toNatClampNeg), .int (xs ((v4 + 2) : Int32).toNatClampNeg)]) C (ok_X4_imported C.tr hq259) kv_X4_imported q1129 rfl rfl rfl rfl dL_law_1495 ⟨(show 12 ≤ 15 by decide), (show 363 ≤ 578 by decide)⟩ ⟨(by have h9 := hex.2.2.2.2.1; show _ ≤ 1088; omega), (by have h9 := hex.2.2.2.2.2; show _ ≤ 13600; omega)⟩ [] (Nat.le_of_ble_eq_true rfl) rfl ?_
  refine aw_istore (pc := 1498) C (x := q260) (lv' := [(6, .int q260), (5, .int q254), (0, .ref bS), (1, .ref (ad 0)), (2, .ref (ad 45)), (3, .ref (ad 54)), (4, .int v4)]) dL_law_1498 (by decide) rfl rfl ?_
  refine aw_aload_n (pc := 1500) C dL_law_1500 rfl 4 rfl ?_
  obtain ⟨q263, hq262, h⟩ := bi_some h
  refine aw_Vi (pc := 1501) (a := 45) (Bs := []) C (ok_X4_thrown C.tr hq262) kv_X4_thrown q819 rfl rfl rfl rfl dL_law_1501 ⟨(show 1 ≤ 15 by decide), (show 20 ≤ 578 by decide)⟩ ⟨(by have h9 := hex.2.2.2.2.1; show _ ≤ 1088; omega), (by have h9 := hex.2.2.2.2.2; show _ ≤ 13600; omega)⟩ [] (Nat.le_of_ble_eq_true rfl) rfl ?_
  refine aw_iload (pc := 1504) C dL_law_1504 1 rfl ?_
  refine aw_icmp_eq (pc := 1506) C 1511 dL_law_1506 rfl (fun hc => ?_) (fun hc => ?_)
  · replace h := ite_T h hc
    refine aw_iload (pc := 1511) C dL_law_1511 1 rfl ?_
    refine aw_if_ne (pc := 1513) C 1528 dL_law_1513 rfl (fun hc => ?_) (fun hc => ?_)
    · replace h := ite_F h hc
      refine aw_goto (pc := 1528) C 1710 dL_law_1528 rfl ?_
      cases h
      refine aw_sub [2, 3, 4, 5, 6] rfl ?_
      exact hk
    · replace h := ite_T h hc
      refine aw_aload_n (pc := 1516) C dL_law_1516 rfl 5 rfl ?_
      refine aw_iconst (pc := 1517) C (v := 0) dL_law_1517 rfl ?_
      refine aw_laload (pc := 1518) C (a := 54) (n := 1) rfl rfl dL_law_1518 ?_
      refine aw_iload (pc := 1519) C dL_law_1519 0 rfl ?_
      refine aw_i2l (pc := 1521) C dL_law_1521 ?_
      refine aw_lcmp (pc := 1522) C dL_law_1522 ?_
      refine aw_if_eq (pc := 1523) C 1528 dL_law_1523 rfl (fun hc => ?_) (fun hc => ?_)
      · replace h := ite_T h hc
        refine aw_goto (pc := 1528) C 1710 dL_law_1528 rfl ?_
        cases h
        refine aw_sub [2, 3, 4, 5, 6] rfl ?_
        exact hk
      · replace h := ite_F h hc
        cases h
  · replace h := ite_F h hc
    cases h
noncomputable def L_law_j1531 (xs : Nat → Int32) (L : Nat) (v4 : Int32) (μ : Mm) : Option Mm :=
  ck (v4 + 1) L <|
  ck (v4 + 2) L <|
  bn (L_used (xs ((v4 + 1) : Int32).toNatClampNeg) (xs ((v4 + 2) : Int32).toNatClampNeg) μ) fun q267 μ268 =>
  ck (v4 + 1) L <|
  ck (v4 + 2) L <|
  bn (X4_used (xs ((v4 + 1) : Int32).toNatClampNeg) (xs ((v4 + 2) : Int32).toNatClampNeg) μ268) fun q273 μ274 =>
  (X4_thrown μ274).bind fun q276 =>
  (if q276 = q267 then (if q267 = 0 then (if (lg_cmp (mOut μ274) (q273).toInt64) = 0 then some μ274 else none) else some μ274) else none)
theorem ok_L_law_j1531 {l : Launch} {p : Program} {e : Env} {s : State} {m : MethodId} {args : Array Value} {below : List Frame} {meth : Method} {c : Code} {D : va_G} {cI cL : ClassId} {ad : Nat → Nat} {A : Nat → Prop} {Q : State → Prop} {bS cs sl : Nat} {ret9 : Option FieldType} (C : CX p l s m args meth c RL cL_law 9 ret9 D cI cL A) {r : Mm} {xs : Nat → Int32} {L : Nat} {v4 : Int32} (hex : NcX s ∧ va_X bS L xs s s.heap ∧ bS < s.heap.size ∧ ¬ A bS ∧ cs + 1 ≤ 1088 ∧ sl + 6 ≤ 13600) (hk : AW p l e room_1 s m args below meth c 9 D cI cL ad A (cs + 1) (sl + 6) Q 1710 [(0, .ref bS), (1, .ref (ad 0)), (2, .ref (ad 45)), (3, .ref (ad 54)), (4, .int v4)] [] r) {μ : Mm}  (h : L_law_j1531 xs L v4 μ = some r) : AW p l e room_1 s m args below meth c 9 D cI cL ad A cs sl Q 1531 [(0, .ref bS), (1, .ref (ad 0)), (2, .ref (ad 45)), (3, .ref (ad 54)), (4, .int v4)] [] μ := by
  unfold L_law_j1531 at h
  refine aw_aload_n (pc := 1531) C dL_law_1531 rfl 1 rfl ?_
  refine aw_aload_n (pc := 1532) C dL_law_1532 rfl 0 rfl ?_
  refine aw_iload (pc := 1533) C dL_law_1533 4 rfl ?_
  refine aw_iconst (pc := 1535) C (v := 1) dL_law_1535 rfl ?_
  refine aw_iadd (pc := 1536) C dL_law_1536 ?_
  obtain ⟨g265, h⟩ := ck_some h
  refine aw_sld (pc := 1537) C hex.2.1 hex.2.2.1 hex.2.2.2.1 g265 dL_law_1537 ?_
  refine aw_aload_n (pc := 1538) C dL_law_1538 rfl 0 rfl ?_
  refine aw_iload (pc := 1539) C dL_law_1539 4 rfl ?_
  refine aw_iconst (pc := 1541) C (v := 2) dL_law_1541 rfl ?_
  refine aw_iadd (pc := 1542) C dL_law_1542 ?_
  obtain ⟨g266, h⟩ := ck_some h
  refine aw_sld (pc := 1543) C hex.2.1 hex.2.2.1 hex.2.2.2.1 g266 dL_law_1543 ?_
  refine aw_aload_n (pc := 1544) C dL_law_1544 rfl 3 rfl ?_
  obtain ⟨q267, μ268, hq269, h⟩ := bn_some h
  refine aw_W (pc := 1545) (Bs := [.ref (ad 0), .int (xs ((v4 + 1) : Int32).toNatClampNeg), .int (xs ((v4 + 2) : Int32).toNatClampNeg), .ref (ad 54)]) C hex.1 (ok_L_used C.tr hq269) kw_L_used q722 rfl rfl dL_law_1545 ⟨(show 9 ≤ 15 by decide), (show 272 ≤ 578 by decide)⟩ ⟨hex.2.2.2.2.1, hex.2.2.2.2.2⟩ [] (Nat.le_of_ble_eq_true rfl) rfl ?_
  refine aw_istore (pc := 1548) C (x := q267) (lv' := [(5, .int q267), (0, .ref bS), (1, .ref (ad 0)), (2, .ref (ad 45)), (3, .ref (ad 54)), (4, .int v4)]) dL_law_1548 (by decide) rfl rfl ?_
  refine aw_aload_n (pc := 1550) C dL_law_1550 rfl 3 rfl ?_
  refine aw_aload_n (pc := 1551) C dL_law_1551 rfl 1 rfl ?_
  refine aw_iload (pc := 1552) C dL_law_1552 5 rfl ?_
  refine aw_iconst (pc := 1554) C (v := 1) dL_law_1554 rfl ?_
  refine aw_iadd (pc := 1555) C dL_law_1555 ?_
  obtain ⟨g270, h⟩ := ck_some h
  refine aw_sld (pc := 1556) C hex.2.1 hex.2.2.1 hex.2.2.2.1 g270 dL_law_1556 ?_
  refine aw_aload_n (pc := 1557) C dL_law_1557 rfl 1 rfl ?_
  refine aw_iload (pc := 1558) C dL_law_1558 5 rfl ?_
  refine aw_iconst (pc := 1560) C (v := 2) dL_law_1560 rfl ?_
  refine aw_iadd (pc := 1561) C dL_law_1561 ?_
  obtain ⟨g271, h⟩ := ck_some h
  refine aw_sld (pc := 1562) C hex.2.1 hex.2.2.1 hex.2.2.2.1 g271 dL_law_1562 ?_
  obtain ⟨q273, μ274, hq272, h⟩ := bn_some h
  refine aw_Vi (pc := 1563) (a := 45) (Bs := [.int (xs ((v4 + 1) : Int32).toNatClampNeg), .int (xs ((v4 + 2) : Int32).toNatClampNeg)]) C (ok_X4_used C.tr hq272) kv_X4_used q1137 rfl rfl rfl rfl dL_law_1563 ⟨(show 10 ≤ 15 by decide), (show 301 ≤ 578 by decide)⟩ ⟨(by have h9 := hex.2.2.2.2.1; show _ ≤ 1088; omega), (by have h9 := hex.2.2.2.2.2; show _ ≤ 13600; omega)⟩ [] (Nat.le_of_ble_eq_true rfl) rfl ?_
  refine aw_istore (pc := 1566) C (x := q273) (lv' := [(6, .int q273), (5, .int q267), (0, .ref bS), (1, .ref (ad 0)), (2, .ref (ad 45)), (3, .ref (ad 54)), (4, .int v4)]) dL_law_1566 (by decide) rfl rfl ?_
  refine aw_aload_n (pc := 1568) C dL_law_1568 rfl 4 rfl ?_
  obtain ⟨q276, hq275, h⟩ := bi_some h
  refine aw_Vi (pc := 1569) (a := 45) (Bs := []) C (ok_X4_thrown C.tr hq275) kv_X4_thrown q819 rfl rfl rfl rfl dL_law_1569 ⟨(show 1 ≤ 15 by decide), (show 20 ≤ 578 by decide)⟩ ⟨(by have h9 := hex.2.2.2.2.1; show _ ≤ 1088; omega), (by have h9 := hex.2.2.2.2.2; show _ ≤ 13600; omega)⟩ [] (Nat.le_of_ble_eq_true rfl) rfl ?_
  refine aw_iload (pc := 1572) C dL_law_1572 1 rfl ?_
  refine aw_icmp_eq (pc := 1574) C 1579 dL_law_1574 rfl (fun hc => ?_) (fun hc => ?_)
  · replace h := ite_T h hc
    refine aw_iload (pc := 1579) C dL_law_1579 1 rfl ?_
    refine aw_if_ne (pc := 1581) C 1596 dL_law_1581 rfl (fun hc => ?_) (fun hc => ?_)
    · replace h := ite_F h hc
      refine aw_goto (pc := 1596) C 1710 dL_law_1596 rfl ?_
      cases h
      refine aw_sub [2, 3, 4, 5, 6] rfl ?_
      exact hk
    · replace h := ite_T h hc
      refine aw_aload_n (pc := 1584) C dL_law_1584 rfl 5 rfl ?_
      refine aw_iconst (pc := 1585) C (v := 0) dL_law_1585 rfl ?_
      refine aw_laload (pc := 1586) C (a := 54) (n := 1) rfl rfl dL_law_1586 ?_
      refine aw_iload (pc := 1587) C dL_law_1587 0 rfl ?_
      refine aw_i2l (pc := 1589) C dL_law_1589 ?_
      refine aw_lcmp (pc := 1590) C dL_law_1590 ?_
      refine aw_if_eq (pc := 1591) C 1596 dL_law_1591 rfl (fun hc => ?_) (fun hc => ?_)
      · replace h := ite_T h hc
        refine aw_goto (pc := 1596) C 1710 dL_law_1596 rfl ?_
        cases h
        refine aw_sub [2, 3, 4, 5, 6] rfl ?_
        exact hk
      · replace h := ite_F h hc
        cases h
  · replace h := ite_F h hc
    cases h
noncomputable def L_law_j1599 (xs : Nat → Int32) (L : Nat) (v4 : Int32) (μ : Mm) : Option Mm :=
  ck (v4 + 1) L <|
  bn (L_parent (xs ((v4 + 1) : Int32).toNatClampNeg) μ) fun q279 μ280 =>
  ck (v4 + 1) L <|
  bn (X4_parent (xs ((v4 + 1) : Int32).toNatClampNeg) μ280) fun q284 μ285 =>
  (X4_thrown μ285).bind fun q287 =>
  (if q287 = q279 then (if q279 = 0 then (if (lg_cmp (mOut μ285) (q284).toInt64) = 0 then some μ285 else none) else some μ285) else none)
theorem ok_L_law_j1599 {l : Launch} {p : Program} {e : Env} {s : State} {m : MethodId} {args : Array Value} {below : List Frame} {meth : Method} {c : Code} {D : va_G} {cI cL : ClassId} {ad : Nat → Nat} {A : Nat → Prop} {Q : State → Prop} {bS cs sl : Nat} {ret9 : Option FieldType} (C : CX p l s m args meth c RL cL_law 9 ret9 D cI cL A) {r : Mm} {xs : Nat → Int32} {L : Nat} {v4 : Int32} (hex : NcX s ∧ va_X bS L xs s s.heap ∧ bS < s.heap.size ∧ ¬ A bS ∧ cs + 1 ≤ 1088 ∧ sl + 6 ≤ 13600) (hk : AW p l e room_1 s m args below meth c 9 D cI cL ad A (cs + 1) (sl + 6) Q 1710 [(0, .ref bS), (1, .ref (ad 0)), (2, .ref (ad 45)), (3, .ref (ad 54)), (4, .int v4)] [] r) {μ : Mm}  (h : L_law_j1599 xs L v4 μ = some r) : AW p l e room_1 s m args below meth c 9 D cI cL ad A cs sl Q 1599 [(0, .ref bS), (1, .ref (ad 0)), (2, .ref (ad 45)), (3, .ref (ad 54)), (4, .int v4)] [] μ := by
  unfold L_law_j1599 at h
  refine aw_aload_n (pc := 1599) C dL_law_1599 rfl 1 rfl ?_
  refine aw_aload_n (pc := 1600) C dL_law_1600 rfl 0 rfl ?_
  refine aw_iload (pc := 1601) C dL_law_1601 4 rfl ?_
  refine aw_iconst (pc := 1603) C (v := 1) dL_law_1603 rfl ?_
  refine aw_iadd (pc := 1604) C dL_law_1604 ?_
  obtain ⟨g278, h⟩ := ck_some h
  refine aw_sld (pc := 1605) C hex.2.1 hex.2.2.1 hex.2.2.2.1 g278 dL_law_1605 ?_
  refine aw_aload_n (pc := 1606) C dL_law_1606 rfl 3 rfl ?_
  obtain ⟨q279, μ280, hq281, h⟩ := bn_some h
  refine aw_W (pc := 1607) (Bs := [.ref (ad 0), .int (xs ((v4 + 1) : Int32).toNatClampNeg), .ref (ad 54)]) C hex.1 (ok_L_parent C.tr hq281) kw_L_parent q726 rfl rfl dL_law_1607 ⟨(show 9 ≤ 15 by decide), (show 271 ≤ 578 by decide)⟩ ⟨hex.2.2.2.2.1, hex.2.2.2.2.2⟩ [] (Nat.le_of_ble_eq_true rfl) rfl ?_
  refine aw_istore (pc := 1610) C (x := q279) (lv' := [(5, .int q279), (0, .ref bS), (1, .ref (ad 0)), (2, .ref (ad 45)), (3, .ref (ad 54)), (4, .int v4)]) dL_law_1610 (by decide) rfl rfl ?_
  refine aw_aload_n (pc := 1612) C dL_law_1612 rfl 3 rfl ?_
  refine aw_aload_n (pc := 1613) C dL_law_1613 rfl 1 rfl ?_
  refine aw_iload (pc := 1614) C dL_law_1614 5 rfl ?_
  refine aw_iconst (pc := 1616) C (v := 1) dL_law_1616 rfl ?_
  refine aw_iadd (pc := 1617) C dL_law_1617 ?_
  obtain ⟨g282, h⟩ := ck_some h
  refine aw_sld (pc := 1618) C hex.2.1 hex.2.2.1 hex.2.2.2.1 g282 dL_law_1618 ?_
  obtain ⟨q284, μ285, hq283, h⟩ := bn_some h
  refine aw_Vi (pc := 1619) (a := 45) (Bs := [.int (xs ((v4 + 1) : Int32).toNatClampNeg)]) C (ok_X4_parent C.tr hq283) kv_X4_parent q1145 rfl rfl rfl rfl dL_law_1619 ⟨(show 3 ≤ 15 by decide), (show 83 ≤ 578 by decide)⟩ ⟨(by have h9 := hex.2.2.2.2.1; show _ ≤ 1088; omega), (by have h9 := hex.2.2.2.2.2; show _ ≤ 13600; omega)⟩ [] (Nat.le_of_ble_eq_true rfl) rfl ?_
  refine aw_istore (pc := 1622) C (x := q284) (lv' := [(6, .int q284), (5, .int q279), (0, .ref bS), (1, .ref (ad 0)), (2, .ref (ad 45)), (3, .ref (ad 54)), (4, .int v4)]) dL_law_1622 (by decide) rfl rfl ?_
  refine aw_aload_n (pc := 1624) C dL_law_1624 rfl 4 rfl ?_
  obtain ⟨q287, hq286, h⟩ := bi_some h
  refine aw_Vi (pc := 1625) (a := 45) (Bs := []) C (ok_X4_thrown C.tr hq286) kv_X4_thrown q819 rfl rfl rfl rfl dL_law_1625 ⟨(show 1 ≤ 15 by decide), (show 20 ≤ 578 by decide)⟩ ⟨(by have h9 := hex.2.2.2.2.1; show _ ≤ 1088; omega), (by have h9 := hex.2.2.2.2.2; show _ ≤ 13600; omega)⟩ [] (Nat.le_of_ble_eq_true rfl) rfl ?_
  refine aw_iload (pc := 1628) C dL_law_1628 1 rfl ?_
  refine aw_icmp_eq (pc := 1630) C 1635 dL_law_1630 rfl (fun hc => ?_) (fun hc => ?_)
  · replace h := ite_T h hc
    refine aw_iload (pc := 1635) C dL_law_1635 1 rfl ?_
    refine aw_if_ne (pc := 1637) C 1652 dL_law_1637 rfl (fun hc => ?_) (fun hc => ?_)
    · replace h := ite_F h hc
      refine aw_goto (pc := 1652) C 1710 dL_law_1652 rfl ?_
      cases h
      refine aw_sub [2, 3, 4, 5, 6] rfl ?_
      exact hk
    · replace h := ite_T h hc
      refine aw_aload_n (pc := 1640) C dL_law_1640 rfl 5 rfl ?_
      refine aw_iconst (pc := 1641) C (v := 0) dL_law_1641 rfl ?_
      refine aw_laload (pc := 1642) C (a := 54) (n := 1) rfl rfl dL_law_1642 ?_
      refine aw_iload (pc := 1643) C dL_law_1643 0 rfl ?_
      refine aw_i2l (pc := 1645) C dL_law_1645 ?_
      refine aw_lcmp (pc := 1646) C dL_law_1646 ?_
      refine aw_if_eq (pc := 1647) C 1652 dL_law_1647 rfl (fun hc => ?_) (fun hc => ?_)
      · replace h := ite_T h hc
        refine aw_goto (pc := 1652) C 1710 dL_law_1652 rfl ?_
        cases h
        refine aw_sub [2, 3, 4, 5, 6] rfl ?_
        exact hk
      · replace h := ite_F h hc
        cases h
  · replace h := ite_F h hc
    cases h
noncomputable def L_law_j1655 (xs : Nat → Int32) (L : Nat) (v4 : Int32) (μ : Mm) : Option Mm :=
  (X3_resolvedShare μ).bind fun q290 =>
  bn (X4_resolvedShare μ) fun q292 μ293 =>
  (if (Op.cmpValue (FP.dcmp q290 q292) .l) = 0 then some μ293 else (if (Op.cmpValue (FP.dcmp q290 q290) .l) = 0 then none else (if (Op.cmpValue (FP.dcmp q292 q292) .l) = 0 then none else some μ293)))
theorem ok_L_law_j1655 {l : Launch} {p : Program} {e : Env} {s : State} {m : MethodId} {args : Array Value} {below : List Frame} {meth : Method} {c : Code} {D : va_G} {cI cL : ClassId} {ad : Nat → Nat} {A : Nat → Prop} {Q : State → Prop} {bS cs sl : Nat} {ret9 : Option FieldType} (C : CX p l s m args meth c RL cL_law 9 ret9 D cI cL A) {r : Mm} {xs : Nat → Int32} {L : Nat} {v4 : Int32} (hex : NcX s ∧ va_X bS L xs s s.heap ∧ bS < s.heap.size ∧ ¬ A bS ∧ cs + 1 ≤ 1088 ∧ sl + 6 ≤ 13600) (hk : AW p l e room_1 s m args below meth c 9 D cI cL ad A (cs + 1) (sl + 6) Q 1710 [(0, .ref bS), (1, .ref (ad 0)), (2, .ref (ad 45)), (3, .ref (ad 54)), (4, .int v4)] [] r) {μ : Mm}  (h : L_law_j1655 xs L v4 μ = some r) : AW p l e room_1 s m args below meth c 9 D cI cL ad A cs sl Q 1655 [(0, .ref bS), (1, .ref (ad 0)), (2, .ref (ad 45)), (3, .ref (ad 54)), (4, .int v4)] [] μ := by
  unfold L_law_j1655 at h
  refine aw_aload_n (pc := 1655) C dL_law_1655 rfl 1 rfl ?_
  obtain ⟨q290, hq289, h⟩ := bi_some h
  refine aw_Vd (pc := 1656) (a := 0) (Bs := []) C (ok_X3_resolvedShare C.tr hq289) kv_X3_resolvedShare q225 rfl rfl rfl rfl dL_law_1656 ⟨(show 5 ≤ 15 by decide), (show 144 ≤ 578 by decide)⟩ ⟨(by have h9 := hex.2.2.2.2.1; show _ ≤ 1088; omega), (by have h9 := hex.2.2.2.2.2; show _ ≤ 13600; omega)⟩ [] (Nat.le_of_ble_eq_true rfl) rfl ?_
  refine aw_dstore (pc := 1659) C (x := q290) (lv' := [(5, .double q290), (0, .ref bS), (1, .ref (ad 0)), (2, .ref (ad 45)), (3, .ref (ad 54)), (4, .int v4)]) dL_law_1659 (by decide) rfl rfl ?_
  refine aw_aload_n (pc := 1661) C dL_law_1661 rfl 3 rfl ?_
  obtain ⟨q292, μ293, hq291, h⟩ := bn_some h
  refine aw_Vd (pc := 1662) (a := 45) (Bs := []) C (ok_X4_resolvedShare C.tr hq291) kv_X4_resolvedShare q1149 rfl rfl rfl rfl dL_law_1662 ⟨(show 10 ≤ 15 by decide), (show 299 ≤ 578 by decide)⟩ ⟨(by have h9 := hex.2.2.2.2.1; show _ ≤ 1088; omega), (by have h9 := hex.2.2.2.2.2; show _ ≤ 13600; omega)⟩ [] (Nat.le_of_ble_eq_true rfl) rfl ?_
  refine aw_dstore (pc := 1665) C (x := q292) (lv' := [(7, .double q292), (5, .double q290), (0, .ref bS), (1, .ref (ad 0)), (2, .ref (ad 45)), (3, .ref (ad 54)), (4, .int v4)]) dL_law_1665 (by decide) rfl rfl ?_
  refine aw_dload (pc := 1667) C dL_law_1667 1 rfl ?_
  refine aw_dload (pc := 1669) C dL_law_1669 0 rfl ?_
  refine aw_dcmp (pc := 1671) C dL_law_1671 ?_
  refine aw_if_eq (pc := 1672) C 1693 dL_law_1672 rfl (fun hc => ?_) (fun hc => ?_)
  · replace h := ite_T h hc
    refine aw_goto (pc := 1693) C 1710 dL_law_1693 rfl ?_
    cases h
    refine aw_sub [2, 3, 4, 5, 6] rfl ?_
    exact aw_widen (cs + 1) (sl + 6) (Nat.le_succ _) (Nat.le_add_right _ _) hk
  · replace h := ite_F h hc
    refine aw_dload (pc := 1675) C dL_law_1675 1 rfl ?_
    refine aw_dload (pc := 1677) C dL_law_1677 1 rfl ?_
    refine aw_dcmp (pc := 1679) C dL_law_1679 ?_
    refine aw_if_eq (pc := 1680) C 1691 dL_law_1680 rfl (fun hc => ?_) (fun hc => ?_)
    · replace h := ite_T h hc
      cases h
    · replace h := ite_F h hc
      refine aw_dload (pc := 1683) C dL_law_1683 0 rfl ?_
      refine aw_dload (pc := 1685) C dL_law_1685 0 rfl ?_
      refine aw_dcmp (pc := 1687) C dL_law_1687 ?_
      refine aw_if_ne (pc := 1688) C 1693 dL_law_1688 rfl (fun hc => ?_) (fun hc => ?_)
      · replace h := ite_F h hc
        refine aw_goto (pc := 1693) C 1710 dL_law_1693 rfl ?_
        cases h
        refine aw_sub [2, 3, 4, 5, 6] rfl ?_
        exact aw_widen (cs + 1) (sl + 6) (Nat.le_succ _) (Nat.le_add_right _ _) hk
      · replace h := ite_T h hc
        cases h
noncomputable def L_law_j1696 (xs : Nat → Int32) (L : Nat) (v4 : Int32) (μ : Mm) : Option Mm :=
  bn (X3_digest μ) fun y298 μ299 =>
  thr y298 (fun E297 => none) fun q296 =>
  bn (X4_digest μ299) fun q301 μ302 =>
  (if (lg_cmp q296 q301) = 0 then some μ302 else none)
theorem ok_L_law_j1696 {l : Launch} {p : Program} {e : Env} {s : State} {m : MethodId} {args : Array Value} {below : List Frame} {meth : Method} {c : Code} {D : va_G} {cI cL : ClassId} {ad : Nat → Nat} {A : Nat → Prop} {Q : State → Prop} {bS cs sl : Nat} {ret9 : Option FieldType} (C : CX p l s m args meth c RL cL_law 9 ret9 D cI cL A) {r : Mm} {xs : Nat → Int32} {L : Nat} {v4 : Int32} (hex : NcX s ∧ va_X bS L xs s s.heap ∧ bS < s.heap.size ∧ ¬ A bS ∧ cs + 1 ≤ 1088 ∧ sl + 6 ≤ 13600) (hk : AW p l e room_1 s m args below meth c 9 D cI cL ad A (cs + 1) (sl + 6) Q 1710 [(0, .ref bS), (1, .ref (ad 0)), (2, .ref (ad 45)), (3, .ref (ad 54)), (4, .int v4)] [] r) {μ : Mm}  (h : L_law_j1696 xs L v4 μ = some r) : AW p l e room_1 s m args below meth c 9 D cI cL ad A cs sl Q 1696 [(0, .ref bS), (1, .ref (ad 0)), (2, .ref (ad 45)), (3, .ref (ad 54)), (4, .int v4)] [] μ := by
  unfold L_law_j1696 at h
  refine aw_aload_n (pc := 1696) C dL_law_1696 rfl 1 rfl ?_
  obtain ⟨y298, μ299, hq295, h⟩ := bn_some h
  rcases y298 with E297 | q296
  · rw [thr_l] at h
    cases h
  · rw [thr_r] at h
    refine aw_Vl (pc := 1697) (a := 0) (Bs := []) C (ok_X3_digest C.tr (r := (.inr q296, μ299)) hq295) kv_X3_digest q259 rfl rfl rfl rfl dL_law_1697 ⟨(show 9 ≤ 15 by decide), (show 272 ≤ 578 by decide)⟩ ⟨(by have h9 := hex.2.2.2.2.1; show _ ≤ 1088; omega), (by have h9 := hex.2.2.2.2.2; show _ ≤ 13600; omega)⟩ [] (Nat.le_of_ble_eq_true rfl) rfl ?_
    refine aw_aload_n (pc := 1700) C dL_law_1700 rfl 2 rfl ?_
    obtain ⟨q301, μ302, hq300, h⟩ := bn_some h
    refine aw_Vl (pc := 1701) (a := 45) (Bs := []) C (ok_X4_digest C.tr hq300) kv_X4_digest q1153 rfl rfl rfl rfl dL_law_1701 ⟨(show 13 ≤ 15 by decide), (show 393 ≤ 578 by decide)⟩ ⟨(by have h9 := hex.2.2.2.2.1; show _ ≤ 1088; omega), (by have h9 := hex.2.2.2.2.2; show _ ≤ 13600; omega)⟩ [.long q296] (Nat.le_of_ble_eq_true rfl) rfl ?_
    refine aw_lcmp (pc := 1704) C dL_law_1704 ?_
    refine aw_if_eq (pc := 1705) C 1710 dL_law_1705 rfl (fun hc => ?_) (fun hc => ?_)
    · replace h := ite_T h hc
      cases h
      refine aw_sub [0, 1, 2, 3, 4] rfl ?_
      exact aw_widen (cs + 1) (sl + 6) (Nat.le_succ _) (Nat.le_add_right _ _) hk
    · replace h := ite_F h hc
      cases h
noncomputable def L_step (xs : Nat → Int32) (L : Nat) (v4 : Int32) (μ : Mm) : Option Mm :=
  ck v4 L <|
  (if ((xs (v4 : Int32).toNatClampNeg) &&& 31) = 0 then L_law_j156 xs L v4 μ else (if ((xs (v4 : Int32).toNatClampNeg) &&& 31) = 1 then L_law_j169 xs L v4 μ else (if ((xs (v4 : Int32).toNatClampNeg) &&& 31) = 2 then L_law_j225 xs L v4 μ else (if ((xs (v4 : Int32).toNatClampNeg) &&& 31) = 3 then L_law_j321 xs L v4 μ else (if ((xs (v4 : Int32).toNatClampNeg) &&& 31) = 4 then L_law_j441 xs L v4 μ else (if ((xs (v4 : Int32).toNatClampNeg) &&& 31) = 5 then L_law_j549 xs L v4 μ else (if ((xs (v4 : Int32).toNatClampNeg) &&& 31) = 6 then L_law_j617 xs L v4 μ else (if ((xs (v4 : Int32).toNatClampNeg) &&& 31) = 7 then L_law_j685 xs L v4 μ else (if ((xs (v4 : Int32).toNatClampNeg) &&& 31) = 8 then L_law_j741 xs L v4 μ else (if ((xs (v4 : Int32).toNatClampNeg) &&& 31) = 9 then L_law_j754 xs L v4 μ else (if ((xs (v4 : Int32).toNatClampNeg) &&& 31) = 10 then L_law_j767 xs L v4 μ else (if ((xs (v4 : Int32).toNatClampNeg) &&& 31) = 11 then L_law_j811 xs L v4 μ else (if ((xs (v4 : Int32).toNatClampNeg) &&& 31) = 12 then L_law_j891 xs L v4 μ else (if ((xs (v4 : Int32).toNatClampNeg) &&& 31) = 13 then L_law_j983 xs L v4 μ else (if ((xs (v4 : Int32).toNatClampNeg) &&& 31) = 14 then L_law_j1051 xs L v4 μ else (if ((xs (v4 : Int32).toNatClampNeg) &&& 31) = 15 then L_law_j1135 xs L v4 μ else (if ((xs (v4 : Int32).toNatClampNeg) &&& 31) = 16 then L_law_j1203 xs L v4 μ else (if ((xs (v4 : Int32).toNatClampNeg) &&& 31) = 17 then L_law_j1283 xs L v4 μ else (if ((xs (v4 : Int32).toNatClampNeg) &&& 31) = 18 then L_law_j1339 xs L v4 μ else (if ((xs (v4 : Int32).toNatClampNeg) &&& 31) = 19 then L_law_j1395 xs L v4 μ else (if ((xs (v4 : Int32).toNatClampNeg) &&& 31) = 20 then L_law_j1463 xs L v4 μ else (if ((xs (v4 : Int32).toNatClampNeg) &&& 31) = 21 then L_law_j1531 xs L v4 μ else (if ((xs (v4 : Int32).toNatClampNeg) &&& 31) = 22 then L_law_j1599 xs L v4 μ else (if ((xs (v4 : Int32).toNatClampNeg) &&& 31) = 23 then L_law_j1655 xs L v4 μ else (if ((xs (v4 : Int32).toNatClampNeg) &&& 31) = 24 then L_law_j1696 xs L v4 μ else some μ)))))))))))))))))))))))))
theorem ok_L_step {l : Launch} {p : Program} {e : Env} {s : State} {m : MethodId} {args : Array Value} {below : List Frame} {meth : Method} {c : Code} {D : va_G} {cI cL : ClassId} {ad : Nat → Nat} {A : Nat → Prop} {Q : State → Prop} {bS cs sl : Nat} {ret9 : Option FieldType} (C : CX p l s m args meth c RL cL_law 9 ret9 D cI cL A) {r : Mm} {xs : Nat → Int32} {L : Nat} {v4 : Int32} {μ : Mm} (hex : NcX s ∧ va_X bS L xs s s.heap ∧ bS < s.heap.size ∧ ¬ A bS ∧ cs + 1 ≤ 1088 ∧ sl + 6 ≤ 13600) (hk : AW p l e room_1 s m args below meth c 9 D cI cL ad A (cs + 1) (sl + 6) Q 1710 [(0, .ref bS), (1, .ref (ad 0)), (2, .ref (ad 45)), (3, .ref (ad 54)), (4, .int v4)] [] r) (h : L_step xs L v4 μ = some r) : AW p l e room_1 s m args below meth c 9 D cI cL ad A cs sl Q 33 [(0, .ref bS), (1, .ref (ad 0)), (2, .ref (ad 45)), (3, .ref (ad 54)), (4, .int v4)] [] μ := by
  unfold L_step at h
  refine aw_aload_n (pc := 33) C dL_law_33 rfl 0 rfl ?_
  refine aw_iload (pc := 34) C dL_law_34 4 rfl ?_
  obtain ⟨g1, h⟩ := ck_some h
  refine aw_sld (pc := 36) C hex.2.1 hex.2.2.1 hex.2.2.2.1 g1 dL_law_36 ?_
  refine aw_bipush (pc := 37) C (v := 31) dL_law_37 rfl ?_
  refine aw_iand (pc := 39) C dL_law_39 ?_
  by_cases hs2 : ((xs (v4 : Int32).toNatClampNeg) &&& 31) = 0
  · replace h := ite_T h hs2
    refine aw_tableIn (pc := 40) C 156 dL_law_40 (by rw [hs2]; decide) (by rw [hs2]; decide) (by rw [hs2]; rfl) rfl ?_
    refine aw_sub [0, 1, 2, 3, 4] rfl ?_
    exact ok_L_law_j156 C hex hk h
  replace h := ite_F h hs2
  by_cases hs9 : ((xs (v4 : Int32).toNatClampNeg) &&& 31) = 1
  · replace h := ite_T h hs9
    refine aw_tableIn (pc := 40) C 169 dL_law_40 (by rw [hs9]; decide) (by rw [hs9]; decide) (by rw [hs9]; rfl) rfl ?_
    refine aw_sub [0, 1, 2, 3, 4] rfl ?_
    exact ok_L_law_j169 C hex hk h
  replace h := ite_F h hs9
  by_cases hs20 : ((xs (v4 : Int32).toNatClampNeg) &&& 31) = 2
  · replace h := ite_T h hs20
    refine aw_tableIn (pc := 40) C 225 dL_law_40 (by rw [hs20]; decide) (by rw [hs20]; decide) (by rw [hs20]; rfl) rfl ?_
    refine aw_sub [0, 1, 2, 3, 4] rfl ?_
    exact ok_L_law_j225 C hex hk h
  replace h := ite_F h hs20
  by_cases hs35 : ((xs (v4 : Int32).toNatClampNeg) &&& 31) = 3
  · replace h := ite_T h hs35
    refine aw_tableIn (pc := 40) C 321 dL_law_40 (by rw [hs35]; decide) (by rw [hs35]; decide) (by rw [hs35]; rfl) rfl ?_
    refine aw_sub [0, 1, 2, 3, 4] rfl ?_
    exact ok_L_law_j321 C hex hk h
  replace h := ite_F h hs35
  by_cases hs54 : ((xs (v4 : Int32).toNatClampNeg) &&& 31) = 4
  · replace h := ite_T h hs54
    refine aw_tableIn (pc := 40) C 441 dL_law_40 (by rw [hs54]; decide) (by rw [hs54]; decide) (by rw [hs54]; rfl) rfl ?_
    refine aw_sub [0, 1, 2, 3, 4] rfl ?_
    exact ok_L_law_j441 C hex hk h
  replace h := ite_F h hs54
  by_cases hs71 : ((xs (v4 : Int32).toNatClampNeg) &&& 31) = 5
  · replace h := ite_T h hs71
    refine aw_tableIn (pc := 40) C 549 dL_law_40 (by rw [hs71]; decide) (by rw [hs71]; decide) (by rw [hs71]; rfl) rfl ?_
    refine aw_sub [0, 1, 2, 3, 4] rfl ?_
    exact ok_L_law_j549 C hex hk h
  replace h := ite_F h hs71
  by_cases hs84 : ((xs (v4 : Int32).toNatClampNeg) &&& 31) = 6
  · replace h := ite_T h hs84
    refine aw_tableIn (pc := 40) C 617 dL_law_40 (by rw [hs84]; decide) (by rw [hs84]; decide) (by rw [hs84]; rfl) rfl ?_
    refine aw_sub [0, 1, 2, 3, 4] rfl ?_
    exact ok_L_law_j617 C hex hk h
  replace h := ite_F h hs84
  by_cases hs97 : ((xs (v4 : Int32).toNatClampNeg) &&& 31) = 7
  · replace h := ite_T h hs97
    refine aw_tableIn (pc := 40) C 685 dL_law_40 (by rw [hs97]; decide) (by rw [hs97]; decide) (by rw [hs97]; rfl) rfl ?_
    refine aw_sub [0, 1, 2, 3, 4] rfl ?_
    exact ok_L_law_j685 C hex hk h
  replace h := ite_F h hs97
  by_cases hs108 : ((xs (v4 : Int32).toNatClampNeg) &&& 31) = 8
  · replace h := ite_T h hs108
    refine aw_tableIn (pc := 40) C 741 dL_law_40 (by rw [hs108]; decide) (by rw [hs108]; decide) (by rw [hs108]; rfl) rfl ?_
    refine aw_sub [0, 1, 2, 3, 4] rfl ?_
    exact ok_L_law_j741 C hex hk h
  replace h := ite_F h hs108
  by_cases hs115 : ((xs (v4 : Int32).toNatClampNeg) &&& 31) = 9
  · replace h := ite_T h hs115
    refine aw_tableIn (pc := 40) C 754 dL_law_40 (by rw [hs115]; decide) (by rw [hs115]; decide) (by rw [hs115]; rfl) rfl ?_
    refine aw_sub [0, 1, 2, 3, 4] rfl ?_
    exact ok_L_law_j754 C hex hk h
  replace h := ite_F h hs115
  by_cases hs121 : ((xs (v4 : Int32).toNatClampNeg) &&& 31) = 10
  · replace h := ite_T h hs121
    refine aw_tableIn (pc := 40) C 767 dL_law_40 (by rw [hs121]; decide) (by rw [hs121]; decide) (by rw [hs121]; rfl) rfl ?_
    refine aw_sub [0, 1, 2, 3, 4] rfl ?_
    exact ok_L_law_j767 C hex hk h
  replace h := ite_F h hs121
  by_cases hs130 : ((xs (v4 : Int32).toNatClampNeg) &&& 31) = 11
  · replace h := ite_T h hs130
    refine aw_tableIn (pc := 40) C 811 dL_law_40 (by rw [hs130]; decide) (by rw [hs130]; decide) (by rw [hs130]; rfl) rfl ?_
    refine aw_sub [0, 1, 2, 3, 4] rfl ?_
    exact ok_L_law_j811 C hex hk h
  replace h := ite_F h hs130
  by_cases hs145 : ((xs (v4 : Int32).toNatClampNeg) &&& 31) = 12
  · replace h := ite_T h hs145
    refine aw_tableIn (pc := 40) C 891 dL_law_40 (by rw [hs145]; decide) (by rw [hs145]; decide) (by rw [hs145]; rfl) rfl ?_
    refine aw_sub [0, 1, 2, 3, 4] rfl ?_
    exact ok_L_law_j891 C hex hk h
  replace h := ite_F h hs145
  by_cases hs162 : ((xs (v4 : Int32).toNatClampNeg) &&& 31) = 13
  · replace h := ite_T h hs162
    refine aw_tableIn (pc := 40) C 983 dL_law_40 (by rw [hs162]; decide) (by rw [hs162]; decide) (by rw [hs162]; rfl) rfl ?_
    refine aw_sub [0, 1, 2, 3, 4] rfl ?_
    exact ok_L_law_j983 C hex hk h
  replace h := ite_F h hs162
  by_cases hs175 : ((xs (v4 : Int32).toNatClampNeg) &&& 31) = 14
  · replace h := ite_T h hs175
    refine aw_tableIn (pc := 40) C 1051 dL_law_40 (by rw [hs175]; decide) (by rw [hs175]; decide) (by rw [hs175]; rfl) rfl ?_
    refine aw_sub [0, 1, 2, 3, 4] rfl ?_
    exact ok_L_law_j1051 C hex hk h
  replace h := ite_F h hs175
  by_cases hs188 : ((xs (v4 : Int32).toNatClampNeg) &&& 31) = 15
  · replace h := ite_T h hs188
    refine aw_tableIn (pc := 40) C 1135 dL_law_40 (by rw [hs188]; decide) (by rw [hs188]; decide) (by rw [hs188]; rfl) rfl ?_
    refine aw_sub [0, 1, 2, 3, 4] rfl ?_
    exact ok_L_law_j1135 C hex hk h
  replace h := ite_F h hs188
  by_cases hs201 : ((xs (v4 : Int32).toNatClampNeg) &&& 31) = 16
  · replace h := ite_T h hs201
    refine aw_tableIn (pc := 40) C 1203 dL_law_40 (by rw [hs201]; decide) (by rw [hs201]; decide) (by rw [hs201]; rfl) rfl ?_
    refine aw_sub [0, 1, 2, 3, 4] rfl ?_
    exact ok_L_law_j1203 C hex hk h
  replace h := ite_F h hs201
  by_cases hs216 : ((xs (v4 : Int32).toNatClampNeg) &&& 31) = 17
  · replace h := ite_T h hs216
    refine aw_tableIn (pc := 40) C 1283 dL_law_40 (by rw [hs216]; decide) (by rw [hs216]; decide) (by rw [hs216]; rfl) rfl ?_
    refine aw_sub [0, 1, 2, 3, 4] rfl ?_
    exact ok_L_law_j1283 C hex hk h
  replace h := ite_F h hs216
  by_cases hs227 : ((xs (v4 : Int32).toNatClampNeg) &&& 31) = 18
  · replace h := ite_T h hs227
    refine aw_tableIn (pc := 40) C 1339 dL_law_40 (by rw [hs227]; decide) (by rw [hs227]; decide) (by rw [hs227]; rfl) rfl ?_
    refine aw_sub [0, 1, 2, 3, 4] rfl ?_
    exact ok_L_law_j1339 C hex hk h
  replace h := ite_F h hs227
  by_cases hs238 : ((xs (v4 : Int32).toNatClampNeg) &&& 31) = 19
  · replace h := ite_T h hs238
    refine aw_tableIn (pc := 40) C 1395 dL_law_40 (by rw [hs238]; decide) (by rw [hs238]; decide) (by rw [hs238]; rfl) rfl ?_
    refine aw_sub [0, 1, 2, 3, 4] rfl ?_
    exact ok_L_law_j1395 C hex hk h
  replace h := ite_F h hs238
  by_cases hs251 : ((xs (v4 : Int32).toNatClampNeg) &&& 31) = 20
  · replace h := ite_T h hs251
    refine aw_tableIn (pc := 40) C 1463 dL_law_40 (by rw [hs251]; decide) (by rw [hs251]; decide) (by rw [hs251]; rfl) rfl ?_
    refine aw_sub [0, 1, 2, 3, 4] rfl ?_
    exact ok_L_law_j1463 C hex hk h
  replace h := ite_F h hs251
  by_cases hs264 : ((xs (v4 : Int32).toNatClampNeg) &&& 31) = 21
  · replace h := ite_T h hs264
    refine aw_tableIn (pc := 40) C 1531 dL_law_40 (by rw [hs264]; decide) (by rw [hs264]; decide) (by rw [hs264]; rfl) rfl ?_
    refine aw_sub [0, 1, 2, 3, 4] rfl ?_
    exact ok_L_law_j1531 C hex hk h
  replace h := ite_F h hs264
  by_cases hs277 : ((xs (v4 : Int32).toNatClampNeg) &&& 31) = 22
  · replace h := ite_T h hs277
    refine aw_tableIn (pc := 40) C 1599 dL_law_40 (by rw [hs277]; decide) (by rw [hs277]; decide) (by rw [hs277]; rfl) rfl ?_
    refine aw_sub [0, 1, 2, 3, 4] rfl ?_
    exact ok_L_law_j1599 C hex hk h
  replace h := ite_F h hs277
  by_cases hs288 : ((xs (v4 : Int32).toNatClampNeg) &&& 31) = 23
  · replace h := ite_T h hs288
    refine aw_tableIn (pc := 40) C 1655 dL_law_40 (by rw [hs288]; decide) (by rw [hs288]; decide) (by rw [hs288]; rfl) rfl ?_
    refine aw_sub [0, 1, 2, 3, 4] rfl ?_
    exact ok_L_law_j1655 C hex hk h
  replace h := ite_F h hs288
  by_cases hs294 : ((xs (v4 : Int32).toNatClampNeg) &&& 31) = 24
  · replace h := ite_T h hs294
    refine aw_tableIn (pc := 40) C 1696 dL_law_40 (by rw [hs294]; decide) (by rw [hs294]; decide) (by rw [hs294]; rfl) rfl ?_
    refine aw_sub [0, 1, 2, 3, 4] rfl ?_
    exact ok_L_law_j1696 C hex hk h
  replace h := ite_F h hs294
  refine aw_tableOut (pc := 40) C 1710 dL_law_40 (by have hs2z := sw_ne hs2 (show Int32.toInt 0 = 0 by decide); have hs9z := sw_ne hs9 (show Int32.toInt 1 = 1 by decide); have hs20z := sw_ne hs20 (show Int32.toInt 2 = 2 by decide); have hs35z := sw_ne hs35 (show Int32.toInt 3 = 3 by decide); have hs54z := sw_ne hs54 (show Int32.toInt 4 = 4 by decide); have hs71z := sw_ne hs71 (show Int32.toInt 5 = 5 by decide); have hs84z := sw_ne hs84 (show Int32.toInt 6 = 6 by decide); have hs97z := sw_ne hs97 (show Int32.toInt 7 = 7 by decide); have hs108z := sw_ne hs108 (show Int32.toInt 8 = 8 by decide); have hs115z := sw_ne hs115 (show Int32.toInt 9 = 9 by decide); have hs121z := sw_ne hs121 (show Int32.toInt 10 = 10 by decide); have hs130z := sw_ne hs130 (show Int32.toInt 11 = 11 by decide); have hs145z := sw_ne hs145 (show Int32.toInt 12 = 12 by decide); have hs162z := sw_ne hs162 (show Int32.toInt 13 = 13 by decide); have hs175z := sw_ne hs175 (show Int32.toInt 14 = 14 by decide); have hs188z := sw_ne hs188 (show Int32.toInt 15 = 15 by decide); have hs201z := sw_ne hs201 (show Int32.toInt 16 = 16 by decide); have hs216z := sw_ne hs216 (show Int32.toInt 17 = 17 by decide); have hs227z := sw_ne hs227 (show Int32.toInt 18 = 18 by decide); have hs238z := sw_ne hs238 (show Int32.toInt 19 = 19 by decide); have hs251z := sw_ne hs251 (show Int32.toInt 20 = 20 by decide); have hs264z := sw_ne hs264 (show Int32.toInt 21 = 21 by decide); have hs277z := sw_ne hs277 (show Int32.toInt 22 = 22 by decide); have hs288z := sw_ne hs288 (show Int32.toInt 23 = 23 by decide); have hs294z := sw_ne hs294 (show Int32.toInt 24 = 24 by decide); omega) rfl ?_
  cases h
  refine aw_sub [0, 1, 2, 3, 4] rfl ?_
  exact aw_widen (cs + 1) (sl + 6) (Nat.le_succ _) (Nat.le_add_right _ _) hk
