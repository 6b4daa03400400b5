/-! methods, read back by program -/
def FO_M_beginOne (fu : Nat) (I : Nat → Nat → Int32) (L : Nat → Nat → Int64) : Option (Int32 × (Nat → Nat → Int32) × (Nat → Nat → Int64)) := if I 331 9 = 1 then (if I 331 10 ≤ 9999 then ((FO_M_nameOf fu  I L).bind (fun u80 => let r80 := u80.1; let I80 := u80.2.1; let L80 := u80.2.2; if r80 ≤ 2 then (if I80 331 9 = 1 then (if I80 331 9 = 1 then (if I80 331 9 = 1 then ((FO_M_emit fu 0 (I80 331 10) I80 L80).bind (fun u90 => let r90 := u90.1; let I90 := u90.2.1; let L90 := u90.2.2; (FO_M_nextToken fu  I90 L90).bind (fun u91 => let r91 := u91.1; let I91 := u91.2.1; let L91 := u91.2.2; (FO_M_endOne fu  I91 L91).bind (fun u92 => let r92 := u92.1; let I92 := u92.2.1; let L92 := u92.2.2; some (r92, I92, L92))))) else ((FO_M_emit fu 0 r80 I80 L80).bind (fun u87 => let r87 := u87.1; let I87 := u87.2.1; let L87 := u87.2.2; (FO_M_nextToken fu  I87 L87).bind (fun u88 => let r88 := u88.1; let I88 := u88.2.1; let L88 := u88.2.2; (FO_M_endOne fu  I88 L88).bind (fun u89 => let r89 := u89.1; let I89 := u89.2.1; let L89 := u89.2.2; some (r89, I89, L89)))))) else (if I80 331 9 = 1 then ((FO_M_emit fu 1 (I80 331 10) I80 L80).bind (fun u84 => let r84 := u84.1; let I84 := u84.2.1; let L84 := u84.2.2; (FO_M_nextToken fu  I84 L84).bind (fun u85 => let r85 := u85.1; let I85 := u85.2.1; let L85 := u85.2.2; (FO_M_endOne fu  I85 L85).bind (fun u86 => let r86 := u86.1; let I86 := u86.2.1; let L86 := u86.2.2; some (r86, I86, L86))))) else ((FO_M_emit fu 1 r80 I80 L80).bind (fun u81 => let r81 := u81.1; let I81 := u81.2.1; let L81 := u81.2.2; (FO_M_nextToken fu  I81 L81).bind (fun u82 => let r82 := u82.1; let I82 := u82.2.1; let L82 := u82.2.2; (FO_M_endOne fu  I82 L82).bind (fun u83 => let r83 := u83.1; let I83 := u83.2.1; let L83 := u83.2.2; some (r83, I83, L83))))))) else (if r80 < 0 then (if I80 331 9 = 40 then ((FO_M_opened fu 40 I80 L80).bind (fun u107 => let r107 := u107.1; let I107 := u107.2.1; let L107 := u107.2.2; some (r107, I107, L107))) else (if I80 331 9 = 45 then ((FO_M_opened fu 5 I80 L80).bind (fun u106 => let r106 := u106.1; let I106 := u106.2.1; let L106 := u106.2.2; some (r106, I106, L106))) else ((FO_M_w4 fu 110 101 97 114 I80 L80).bind (fun u93 => let r93 := u93.1; let I93 := u93.2.1; let L93 := u93.2.2; (FO_M_isWord fu r93 I93 L93).bind (fun u94 => let r94 := u94.1; let I94 := u94.2.1; let L94 := u94.2.2; if r94 = 0 then ((FO_M_w4 fu 99 117 112 115 I94 L94).bind (fun u95 => let r95 := u95.1; let I95 := u95.2.1; let L95 := u95.2.2; (FO_M_isWord fu r95 I95 L95).bind (fun u96 => let r96 := u96.1; let I96 := u96.2.1; let L96 := u96.2.2; if r96 = 0 then ((FO_M_w2 fu 105 102 I96 L96).bind (fun u97 => let r97 := u97.1; let I97 := u97.2.1; let L97 := u97.2.2; (FO_M_isWord fu r97 I97 L97).bind (fun u98 => let r98 := u98.1; let I98 := u98.2.1; let L98 := u98.2.2; if r98 = 0 then ((FO_M_w3 fu 110 111 116 I98 L98).bind (fun u99 => let r99 := u99.1; let I99 := u99.2.1; let L99 := u99.2.2; (FO_M_isWord fu r99 I99 L99).bind (fun u100 => let r100 := u100.1; let I100 := u100.2.1; let L100 := u100.2.2; if r100 = 0 then (some (1, I100, L100)) else ((FO_M_isAskAhead fu  I100 L100).bind (fun u101 => let r101 := u101.1; let I101 := u101.2.1; let L101 := u101.2.2; if r101 = 0 then (some (1, I101, L101)) else ((FO_M_opened fu 20 I101 L101).bind (fun u102 => let r102 := u102.1; let I102 := u102.2.1; let L102 := u102.2.2; some (r102, I102, L102)))))))) else ((FO_M_opened fu 42 I98 L98).bind (fun u103 => let r103 := u103.1; let I103 := u103.2.1; let L103 := u103.2.2; some (r103, I103, L103)))))) else ((FO_M_opened fu 2 I96 L96).bind (fun u104 => let r104 := u104.1; let I104 := u104.2.1; let L104 := u104.2.2; some (r104, I104, L104)))))) else ((FO_M_opened fu 41 I94 L94).bind (fun u105 => let r105 := u105.1; let I105 := u105.2.1; let L105 := u105.2.2; some (r105, I105, L105)))))))) else (if I80 331 9 = 1 then (if I80 331 9 = 1 then ((FO_M_emit fu 0 (I80 331 10) I80 L80).bind (fun u117 => let r117 := u117.1; let I117 := u117.2.1; let L117 := u117.2.2; (FO_M_nextToken fu  I117 L117).bind (fun u118 => let r118 := u118.1; let I118 := u118.2.1; let L118 := u118.2.2; (FO_M_endOne fu  I118 L118).bind (fun u119 => let r119 := u119.1; let I119 := u119.2.1; let L119 := u119.2.2; some (r119, I119, L119))))) else ((FO_M_emit fu 0 r80 I80 L80).bind (fun u114 => let r114 := u114.1; let I114 := u114.2.1; let L114 := u114.2.2; (FO_M_nextToken fu  I114 L114).bind (fun u115 => let r115 := u115.1; let I115 := u115.2.1; let L115 := u115.2.2; (FO_M_endOne fu  I115 L115).bind (fun u116 => let r116 := u116.1; let I116 := u116.2.1; let L116 := u116.2.2; some (r116, I116, L116)))))) else (if I80 331 9 = 1 then ((FO_M_emit fu 1 (I80 331 10) I80 L80).bind (fun u111 => let r111 := u111.1; let I111 := u111.2.1; let L111 := u111.2.2; (FO_M_nextToken fu  I111 L111).bind (fun u112 => let r112 := u112.1; let I112 := u112.2.1; let L112 := u112.2.2; (FO_M_endOne fu  I112 L112).bind (fun u113 => let r113 := u113.1; let I113 := u113.2.1; let L113 := u113.2.2; some (r113, I113, L113))))) else ((FO_M_emit fu 1 r80 I80 L80).bind (fun u108 => let r108 := u108.1; let I108 := u108.2.1; let L108 := u108.2.2; (FO_M_nextToken fu  I108 L108).bind (fun u109 => let r109 := u109.1; let I109 := u109.2.1; let L109 := u109.2.2; (FO_M_endOne fu  I109 L109).bind (fun u110 => let r110 := u110.1; let I110 := u110.2.1; let L110 := u110.2.2; some (r110, I110, L110))))))))) else (if I80 331 14 = 0 then (if I80 331 9 = 1 then (if I80 331 9 = 1 then (if I80 331 9 = 1 then ((FO_M_emit fu 0 (I80 331 10) I80 L80).bind (fun u129 => let r129 := u129.1; let I129 := u129.2.1; let L129 := u129.2.2; (FO_M_nextToken fu  I129 L129).bind (fun u130 => let r130 := u130.1; let I130 := u130.2.1; let L130 := u130.2.2; (FO_M_endOne fu  I130 L130).bind (fun u131 => let r131 := u131.1; let I131 := u131.2.1; let L131 := u131.2.2; some (r131, I131, L131))))) else ((FO_M_emit fu 0 r80 I80 L80).bind (fun u126 => let r126 := u126.1; let I126 := u126.2.1; let L126 := u126.2.2; (FO_M_nextToken fu  I126 L126).bind (fun u127 => let r127 := u127.1; let I127 := u127.2.1; let L127 := u127.2.2; (FO_M_endOne fu  I127 L127).bind (fun u128 => let r128 := u128.1; let I128 := u128.2.1; let L128 := u128.2.2; some (r128, I128, L128)))))) else (if I80 331 9 = 1 then ((FO_M_emit fu 1 (I80 331 10) I80 L80).bind (fun u123 => let r123 := u123.1; let I123 := u123.2.1; let L123 := u123.2.2; (FO_M_nextToken fu  I123 L123).bind (fun u124 => let r124 := u124.1; let I124 := u124.2.1; let L124 := u124.2.2; (FO_M_endOne fu  I124 L124).bind (fun u125 => let r125 := u125.1; let I125 := u125.2.1; let L125 := u125.2.2; some (r125, I125, L125))))) else ((FO_M_emit fu 1 r80 I80 L80).bind (fun u120 => let r120 := u120.1; let I120 := u120.2.1; let L120 := u120.2.2; (FO_M_nextToken fu  I120 L120).bind (fun u121 => let r121 := u121.1; let I121 := u121.2.1; let L121 := u121.2.2; (FO_M_endOne fu  I121 L121).bind (fun u122 => let r122 := u122.1; let I122 := u122.2.1; let L122 := u122.2.2; some (r122, I122, L122))))))) else (if r80 < 0 then (if I80 331 9 = 40 then ((FO_M_opened fu 40 I80 L80).bind (fun u146 => let r146 := u146.1; let I146 := u146.2.1; let L146 := u146.2.2; some (r146, I146, L146))) else (if I80 331 9 = 45 then ((FO_M_opened fu 5 I80 L80).bind (fun u145 => let r145 := u145.1; let I145 := u145.2.1; let L145 := u145.2.2; some (r145, I145, L145))) else ((FO_M_w4 fu 110 101 97 114 I80 L80).bind (fun u132 => let r132 := u132.1; let I132 := u132.2.1; let L132 := u132.2.2; (FO_M_isWord fu r132 I132 L132).bind (fun u133 => let r133 := u133.1; let I133 := u133.2.1; let L133 := u133.2.2; if r133 = 0 then ((FO_M_w4 fu 99 117 112 115 I133 L133).bind (fun u134 => let r134 := u134.1; let I134 := u134.2.1; let L134 := u134.2.2; (FO_M_isWord fu r134 I134 L134).bind (fun u135 => let r135 := u135.1; let I135 := u135.2.1; let L135 := u135.2.2; if r135 = 0 then ((FO_M_w2 fu 105 102 I135 L135).bind (fun u136 => let r136 := u136.1; let I136 := u136.2.1; let L136 := u136.2.2; (FO_M_isWord fu r136 I136 L136).bind (fun u137 => let r137 := u137.1; let I137 := u137.2.1; let L137 := u137.2.2; if r137 = 0 then ((FO_M_w3 fu 110 111 116 I137 L137).bind (fun u138 => let r138 := u138.1; let I138 := u138.2.1; let L138 := u138.2.2; (FO_M_isWord fu r138 I138 L138).bind (fun u139 => let r139 := u139.1; let I139 := u139.2.1; let L139 := u139.2.2; if r139 = 0 then (some (1, I139, L139)) else ((FO_M_isAskAhead fu  I139 L139).bind (fun u140 => let r140 := u140.1; let I140 := u140.2.1; let L140 := u140.2.2; if r140 = 0 then (some (1, I140, L140)) else ((FO_M_opened fu 20 I140 L140).bind (fun u141 => let r141 := u141.1; let I141 := u141.2.1; let L141 := u141.2.2; some (r141, I141, L141)))))))) else ((FO_M_opened fu 42 I137 L137).bind (fun u142 => let r142 := u142.1; let I142 := u142.2.1; let L142 := u142.2.2; some (r142, I142, L142)))))) else ((FO_M_opened fu 2 I135 L135).bind (fun u143 => let r143 := u143.1; let I143 := u143.2.1; let L143 := u143.2.2; some (r143, I143, L143)))))) else ((FO_M_opened fu 41 I133 L133).bind (fun u144 => let r144 := u144.1; let I144 := u144.2.1; let L144 := u144.2.2; some (r144, I144, L144)))))))) else (if I80 331 9 = 1 then (if I80 331 9 = 1 then ((FO_M_emit fu 0 (I80 331 10) I80 L80).bind (fun u156 => let r156 := u156.1; let I156 := u156.2.1; let L156 := u156.2.2; (FO_M_nextToken fu  I156 L156).bind (fun u157 => let r157 := u157.1; let I157 := u157.2.1; let L157 := u157.2.2; (FO_M_endOne fu  I157 L157).bind (fun u158 => let r158 := u158.1; let I158 := u158.2.1; let L158 := u158.2.2; some (r158, I158, L158))))) else ((FO_M_emit fu 0 r80 I80 L80).bind (fun u153 => let r153 := u153.1; let I153 := u153.2.1; let L153 := u153.2.2; (FO_M_nextToken fu  I153 L153).bind (fun u154 => let r154 := u154.1; let I154 := u154.2.1; let L154 := u154.2.2; (FO_M_endOne fu  I154 L154).bind (fun u155 => let r155 := u155.1; let I155 := u155.2.1; let L155 := u155.2.2; some (r155, I155, L155)))))) else (if I80 331 9 = 1 then ((FO_M_emit fu 1 (I80 331 10) I80 L80).bind (fun u150 => let r150 := u150.1; let I150 := u150.2.1; let L150 := u150.2.2; (FO_M_nextToken fu  I150 L150).bind (fun u151 => let r151 := u151.1; let I151 := u151.2.1; let L151 := u151.2.2; (FO_M_endOne fu  I151 L151).bind (fun u152 => let r152 := u152.1; let I152 := u152.2.1; let L152 := u152.2.2; some (r152, I152, L152))))) else ((FO_M_emit fu 1 r80 I80 L80).bind (fun u147 => let r147 := u147.1; let I147 := u147.2.1; let L147 := u147.2.2; (FO_M_nextToken fu  I147 L147).bind (fun u148 => let r148 := u148.1; let I148 := u148.2.1; let L148 := u148.2.2; (FO_M_endOne fu  I148 L148).bind (fun u149 => let r149 := u149.1; let I149 := u149.2.1; let L149 := u149.2.2; some (r149, I149, L149))))))))) else (some (5, I80, L80))))) else (some (2, I, L))) else ((FO_M_nameOf fu  I L).bind (fun u1 => let r1 := u1.1; let I1 := u1.2.1; let L1 := u1.2.2; if r1 ≤ 2 then (if I1 331 9 = 1 then (if I1 331 9 = 1 then (if I1 331 9 = 1 then ((FO_M_emit fu 0 (I1 331 10) I1 L1).bind (fun u11 => let r11 := u11.1; let I11 := u11.2.1; let L11 := u11.2.2; (FO_M_nextToken fu  I11 L11).bind (fun u12 => let r12 := u12.1; let I12 := u12.2.1; let L12 := u12.2.2; (FO_M_endOne fu  I12 L12).bind (fun u13 => let r13 := u13.1; let I13 := u13.2.1; let L13 := u13.2.2; some (r13, I13, L13))))) else ((FO_M_emit fu 0 r1 I1 L1).bind (fun u8 => let r8 := u8.1; let I8 := u8.2.1; let L8 := u8.2.2; (FO_M_nextToken fu  I8 L8).bind (fun u9 => let r9 := u9.1; let I9 := u9.2.1; let L9 := u9.2.2; (FO_M_endOne fu  I9 L9).bind (fun u10 => let r10 := u10.1; let I10 := u10.2.1; let L10 := u10.2.2; some (r10, I10, L10)))))) else (if I1 331 9 = 1 then ((FO_M_emit fu 1 (I1 331 10) I1 L1).bind (fun u5 => let r5 := u5.1; let I5 := u5.2.1; let L5 := u5.2.2; (FO_M_nextToken fu  I5 L5).bind (fun u6 => let r6 := u6.1; let I6 := u6.2.1; let L6 := u6.2.2; (FO_M_endOne fu  I6 L6).bind (fun u7 => let r7 := u7.1; let I7 := u7.2.1; let L7 := u7.2.2; some (r7, I7, L7))))) else ((FO_M_emit fu 1 r1 I1 L1).bind (fun u2 => let r2 := u2.1; let I2 := u2.2.1; let L2 := u2.2.2; (FO_M_nextToken fu  I2 L2).bind (fun u3 => let r3 := u3.1; let I3 := u3.2.1; let L3 := u3.2.2; (FO_M_endOne fu  I3 L3).bind (fun u4 => let r4 := u4.1; let I4 := u4.2.1; let L4 := u4.2.2; some (r4, I4, L4))))))) else (if r1 < 0 then (if I1 331 9 = 40 then ((FO_M_opened fu 40 I1 L1).bind (fun u28 => let r28 := u28.1; let I28 := u28.2.1; let L28 := u28.2.2; some (r28, I28, L28))) else (if I1 331 9 = 45 then ((FO_M_opened fu 5 I1 L1).bind (fun u27 => let r27 := u27.1; let I27 := u27.2.1; let L27 := u27.2.2; some (r27, I27, L27))) else ((FO_M_w4 fu 110 101 97 114 I1 L1).bind (fun u14 => let r14 := u14.1; let I14 := u14.2.1; let L14 := u14.2.2; (FO_M_isWord fu r14 I14 L14).bind (fun u15 => let r15 := u15.1; let I15 := u15.2.1; let L15 := u15.2.2; if r15 = 0 then ((FO_M_w4 fu 99 117 112 115 I15 L15).bind (fun u16 => let r16 := u16.1; let I16 := u16.2.1; let L16 := u16.2.2; (FO_M_isWord fu r16 I16 L16).bind (fun u17 => let r17 := u17.1; let I17 := u17.2.1; let L17 := u17.2.2; if r17 = 0 then ((FO_M_w2 fu 105 102 I17 L17).bind (fun u18 => let r18 := u18.1; let I18 := u18.2.1; let L18 := u18.2.2; (FO_M_isWord fu r18 I18 L18).bind (fun u19 => let r19 := u19.1; let I19 := u19.2.1; let L19 := u19.2.2; if r19 = 0 then ((FO_M_w3 fu 110 111 116 I19 L19).bind (fun u20 => let r20 := u20.1; let I20 := u20.2.1; let L20 := u20.2.2; (FO_M_isWord fu r20 I20 L20).bind (fun u21 => let r21 := u21.1; let I21 := u21.2.1; let L21 := u21.2.2; if r21 = 0 then (some (1, I21, L21)) else ((FO_M_isAskAhead fu  I21 L21).bind (fun u22 => let r22 := u22.1; let I22 := u22.2.1; let L22 := u22.2.2; if r22 = 0 then (some (1, I22, L22)) else ((FO_M_opened fu 20 I22 L22).bind (fun u23 => let r23 := u23.1; let I23 := u23.2.1; let L23 := u23.2.2; some (r23, I23, L23)))))))) else ((FO_M_opened fu 42 I19 L19).bind (fun u24 => let r24 := u24.1; let I24 := u24.2.1; let L24 := u24.2.2; some (r24, I24, L24)))))) else ((FO_M_opened fu 2 I17 L17).bind (fun u25 => let r25 := u25.1; let I25 := u25.2.1; let L25 := u25.2.2; some (r25, I25, L25)))))) else ((FO_M_opened fu 41 I15 L15).bind (fun u26 => let r26 := u26.1; let I26 := u26.2.1; let L26 := u26.2.2; some (r26, I26, L26)))))))) else (if I1 331 9 = 1 then (if I1 331 9 = 1 then ((FO_M_emit fu 0 (I1 331 10) I1 L1).bind (fun u38 => let r38 := u38.1; let I38 := u38.2.1; let L38 := u38.2.2; (FO_M_nextToken fu  I38 L38).bind (fun u39 => let r39 := u39.1; let I39 := u39.2.1; let L39 := u39.2.2; (FO_M_endOne fu  I39 L39).bind (fun u40 => let r40 := u40.1; let I40 := u40.2.1; let L40 := u40.2.2; some (r40, I40, L40))))) else ((FO_M_emit fu 0 r1 I1 L1).bind (fun u35 => let r35 := u35.1; let I35 := u35.2.1; let L35 := u35.2.2; (FO_M_nextToken fu  I35 L35).bind (fun u36 => let r36 := u36.1; let I36 := u36.2.1; let L36 := u36.2.2; (FO_M_endOne fu  I36 L36).bind (fun u37 => let r37 := u37.1; let I37 := u37.2.1; let L37 := u37.2.2; some (r37, I37, L37)))))) else (if I1 331 9 = 1 then ((FO_M_emit fu 1 (I1 331 10) I1 L1).bind (fun u32 => let r32 := u32.1; let I32 := u32.2.1; let L32 := u32.2.2; (FO_M_nextToken fu  I32 L32).bind (fun u33 => let r33 := u33.1; let I33 := u33.2.1; let L33 := u33.2.2; (FO_M_endOne fu  I33 L33).bind (fun u34 => let r34 := u34.1; let I34 := u34.2.1; let L34 := u34.2.2; some (r34, I34, L34))))) else ((FO_M_emit fu 1 r1 I1 L1).bind (fun u29 => let r29 := u29.1; let I29 := u29.2.1; let L29 := u29.2.2; (FO_M_nextToken fu  I29 L29).bind (fun u30 => let r30 := u30.1; let I30 := u30.2.1; let L30 := u30.2.2; (FO_M_endOne fu  I30 L30).bind (fun u31 => let r31 := u31.1; let I31 := u31.2.1; let L31 := u31.2.2; some (r31, I31, L31))))))))) else (if I1 331 14 = 0 then (if I1 331 9 = 1 then (if I1 331 9 = 1 then (if I1 331 9 = 1 then ((FO_M_emit fu 0 (I1 331 10) I1 L1).bind (fun u50 => let r50 := u50.1; let I50 := u50.2.1; let L50 := u50.2.2; (FO_M_nextToken fu  I50 L50).bind (fun u51 => let r51 := u51.1; let I51 := u51.2.1; let L51 := u51.2.2; (FO_M_endOne fu  I51 L51).bind (fun u52 => let r52 := u52.1; let I52 := u52.2.1; let L52 := u52.2.2; some (r52, I52, L52))))) else ((FO_M_emit fu 0 r1 I1 L1).bind (fun u47 => let r47 := u47.1; let I47 := u47.2.1; let L47 := u47.2.2; (FO_M_nextToken fu  I47 L47).bind (fun u48 => let r48 := u48.1; let I48 := u48.2.1; let L48 := u48.2.2; (FO_M_endOne fu  I48 L48).bind (fun u49 => let r49 := u49.1; let I49 := u49.2.1; let L49 := u49.2.2; some (r49, I49, L49)))))) else (if I1 331 9 = 1 then ((FO_M_emit fu 1 (I1 331 10) I1 L1).bind (fun u44 => let r44 := u44.1; let I44 := u44.2.1; let L44 := u44.2.2; (FO_M_nextToken fu  I44 L44).bind (fun u45 => let r45 := u45.1; let I45 := u45.2.1; let L45 := u45.2.2; (FO_M_endOne fu  I45 L45).bind (fun u46 => let r46 := u46.1; let I46 := u46.2.1; let L46 := u46.2.2; some (r46, I46, L46))))) else ((FO_M_emit fu 1 r1 I1 L1).bind (fun u41 => let r41 := u41.1; let I41 := u41.2.1; let L41 := u41.2.2; (FO_M_nextToken fu  I41 L41).bind (fun u42 => let r42 := u42.1; let I42 := u42.2.1; let L42 := u42.2.2; (FO_M_endOne fu  I42 L42).bind (fun u43 => let r43 := u43.1; let I43 := u43.2.1; let L43 := u43.2.2; some (r43, I43, L43))))))) else (if r1 < 0 then (if I1 331 9 = 40 then ((FO_M_opened fu 40 I1 L1).bind (fun u67 => let r67 := u67.1; let I67 := u67.2.1; let L67 := u67.2.2; some (r67, I67, L67))) else (if I1 331 9 = 45 then ((FO_M_opened fu 5 I1 L1).bind (fun u66 => let r66 := u66.1; let I66 := u66.2.1; let L66 := u66.2.2; some (r66, I66, L66))) else ((FO_M_w4 fu 110 101 97 114 I1 L1).bind (fun u53 => let r53 := u53.1; let I53 := u53.2.1; let L53 := u53.2.2; (FO_M_isWord fu r53 I53 L53).bind (fun u54 => let r54 := u54.1; let I54 := u54.2.1; let L54 := u54.2.2; if r54 = 0 then ((FO_M_w4 fu 99 117 112 115 I54 L54).bind (fun u55 => let r55 := u55.1; let I55 := u55.2.1; let L55 := u55.2.2; (FO_M_isWord fu r55 I55 L55).bind (fun u56 => let r56 := u56.1; let I56 := u56.2.1; let L56 := u56.2.2; if r56 = 0 then ((FO_M_w2 fu 105 102 I56 L56).bind (fun u57 => let r57 := u57.1; let I57 := u57.2.1; let L57 := u57.2.2; (FO_M_isWord fu r57 I57 L57).bind (fun u58 => let r58 := u58.1; let I58 := u58.2.1; let L58 := u58.2.2; if r58 = 0 then ((FO_M_w3 fu 110 111 116 I58 L58).bind (fun u59 => let r59 := u59.1; let I59 := u59.2.1; let L59 := u59.2.2; (FO_M_isWord fu r59 I59 L59).bind (fun u60 => let r60 := u60.1; let I60 := u60.2.1; let L60 := u60.2.2; if r60 = 0 then (some (1, I60, L60)) else ((FO_M_isAskAhead fu  I60 L60).bind (fun u61 => let r61 := u61.1; let I61 := u61.2.1; let L61 := u61.2.2; if r61 = 0 then (some (1, I61, L61)) else ((FO_M_opened fu 20 I61 L61).bind (fun u62 => let r62 := u62.1; let I62 := u62.2.1; let L62 := u62.2.2; some (r62, I62, L62)))))))) else ((FO_M_opened fu 42 I58 L58).bind (fun u63 => let r63 := u63.1; let I63 := u63.2.1; let L63 := u63.2.2; some (r63, I63, L63)))))) else ((FO_M_opened fu 2 I56 L56).bind (fun u64 => let r64 := u64.1; let I64 := u64.2.1; let L64 := u64.2.2; some (r64, I64, L64)))))) else ((FO_M_opened fu 41 I54 L54).bind (fun u65 => let r65 := u65.1; let I65 := u65.2.1; let L65 := u65.2.2; some (r65, I65, L65)))))))) else (if I1 331 9 = 1 then (if I1 331 9 = 1 then ((FO_M_emit fu 0 (I1 331 10) I1 L1).bind (fun u77 => let r77 := u77.1; let I77 := u77.2.1; let L77 := u77.2.2; (FO_M_nextToken fu  I77 L77).bind (fun u78 => let r78 := u78.1; let I78 := u78.2.1; let L78 := u78.2.2; (FO_M_endOne fu  I78 L78).bind (fun u79 => let r79 := u79.1; let I79 := u79.2.1; let L79 := u79.2.2; some (r79, I79, L79))))) else ((FO_M_emit fu 0 r1 I1 L1).bind (fun u74 => let r74 := u74.1; let I74 := u74.2.1; let L74 := u74.2.2; (FO_M_nextToken fu  I74 L74).bind (fun u75 => let r75 := u75.1; let I75 := u75.2.1; let L75 := u75.2.2; (FO_M_endOne fu  I75 L75).bind (fun u76 => let r76 := u76.1; let I76 := u76.2.1; let L76 := u76.2.2; some (r76, I76, L76)))))) else (if I1 331 9 = 1 then ((FO_M_emit fu 1 (I1 331 10) I1 L1).bind (fun u71 => let r71 := u71.1; let I71 := u71.2.1; let L71 := u71.2.2; (FO_M_nextToken fu  I71 L71).bind (fun u72 => let r72 := u72.1; let I72 := u72.2.1; let L72 := u72.2.2; (FO_M_endOne fu  I72 L72).bind (fun u73 => let r73 := u73.1; let I73 := u73.2.1; let L73 := u73.2.2; some (r73, I73, L73))))) else ((FO_M_emit fu 1 r1 I1 L1).bind (fun u68 => let r68 := u68.1; let I68 := u68.2.1; let L68 := u68.2.2; (FO_M_nextToken fu  I68 L68).bind (fun u69 => let r69 := u69.1; let I69 := u69.2.1; let L69 := u69.2.2; (FO_M_endOne fu  I69 L69).bind (fun u70 => let r70 := u70.1; let I70 := u70.2.1; let L70 := u70.2.2; some (r70, I70, L70))))))))) else (some (5, I1, L1)))))
set_option maxHeartbeats 20000000 in
set_option maxRecDepth 20000 in
theorem eo_M_beginOne {d fu : Nat} {I : Nat → Nat → Int32} {L : Nat → Nat → Int64} {X : Nat × (Nat → Int32)} {Q : PQ} {res : Int32 × (Nat → Nat → Int32) × (Nat → Nat → Int64)}  (g : Q (some (.int res.1)) (HS res.2.1 res.2.2 X)) (q : FO_M_beginOne fu  I L = some res) : Ev (d + 7) m_M_beginOne [.ref 331] (HS I L X) Q := by
  unfold FO_M_beginOne at q
  refine ev_start (d := d + 6) rfl rfl rfl (Nat.le_of_ble_eq_true rfl) ?_
  show Wp (Ev (d + 6)) cd_M_beginOne (0, 0) (some .int) _ _ Q 0 [(0, .ref 331)] [] (HS I L X)
  refine w_aload_n (Ev.cm _) rfl rfl ?_
  refine w_getI (Ev.cm _) rfl (Nat.le_of_ble_eq_true rfl) rfl ?_
  refine w_iconst (Ev.cm _) rfl ?_
  refine w_icmp_ne (Ev.cm _) rfl (fun c1 => ?_) (fun c1 => ?_)
  · have c1 : ¬ (I 331 9 = 1) := c1
    rw [if_neg c1] at q
    refine w_aload_n (Ev.cm _) rfl rfl ?_
    obtain ⟨⟨r1, I1, L1⟩, e1, q⟩ := obs q
    dsimp only at q
    refine w_cvirt (o := 331) (as := []) (st := []) (Ev.cm _) rfl rfl rfl (Nat.le_of_ble_eq_true rfl) (Nat.le_of_ble_eq_true rfl) rfl (Nat.le_of_ble_eq_true rfl) (eo_M_nameOf (g := ?_) e1)
    show Wp _ _ _ _ _ _ _ 24 [(0, .ref 331)] [.int r1] (HS I1 L1 X)
    refine w_istore_n (ls2 := [(0, .ref 331), (1, .int r1)]) (Ev.cm _) rfl rfl ?_
    refine w_iload_n (Ev.cm _) rfl rfl ?_
    refine w_iconst (Ev.cm _) rfl ?_
    refine w_icmp_le (Ev.cm _) rfl (fun c2 => ?_) (fun c2 => ?_)
    · have c2 : r1 ≤ 2 := c2
      rw [if_pos c2] at q
      refine w_aload_n (Ev.cm _) rfl rfl ?_
      refine w_getI (Ev.cm _) rfl (Nat.le_of_ble_eq_true rfl) rfl ?_
      refine w_iconst (Ev.cm _) rfl ?_
      refine w_icmp_eq (Ev.cm _) rfl (fun c3 => ?_) (fun c3 => ?_)
      · have c3 : I1 331 9 = 1 := c3
        rw [if_pos c3] at q
        refine w_aload_n (Ev.cm _) rfl rfl ?_
        refine w_aload_n (Ev.cm _) rfl rfl ?_
        refine w_getI (Ev.cm _) rfl (Nat.le_of_ble_eq_true rfl) rfl ?_
        refine w_iconst (Ev.cm _) rfl ?_
        refine w_icmp_ne (Ev.cm _) rfl (fun c4 => ?_) (fun c4 => ?_)
        · have c4 : ¬ (I1 331 9 = 1) := c4
          rw [if_neg c4] at q
          refine w_iconst (Ev.cm _) rfl ?_
          refine w_aload_n (Ev.cm _) rfl rfl ?_
          refine w_getI (Ev.cm _) rfl (Nat.le_of_ble_eq_true rfl) rfl ?_
          refine w_iconst (Ev.cm _) rfl ?_
          refine w_icmp_ne (Ev.cm _) rfl (fun c5 => ?_) (fun c5 => ?_)
          · have c5 : ¬ (I1 331 9 = 1) := c5
            rw [if_neg c5] at q
            refine w_iload_n (Ev.cm _) rfl rfl ?_
            obtain ⟨⟨r2, I2, L2⟩, e2, q⟩ := obs q
            dsimp only at q
            refine w_cvirt (o := 331) (as := [.int 1, .int r1]) (st := []) (Ev.cm _) rfl rfl rfl (Nat.le_of_ble_eq_true rfl) (Nat.le_of_ble_eq_true rfl) rfl (Nat.le_of_ble_eq_true rfl) (eo_M_emit (g := ?_) e2)
            show Wp _ _ _ _ _ _ _ 84 [(0, .ref 331), (1, .int r1)] [] (HS I2 L2 X)
            refine w_aload_n (Ev.cm _) rfl rfl ?_
            obtain ⟨⟨r3, I3, L3⟩, e3, q⟩ := obs q
            dsimp only at q
            refine w_cvirt (o := 331) (as := []) (st := []) (Ev.cm _) rfl rfl rfl (Nat.le_of_ble_eq_true rfl) (Nat.le_of_ble_eq_true rfl) rfl (Nat.le_of_ble_eq_true rfl) (eo_M_nextToken (g := ?_) e3)
            show Wp _ _ _ _ _ _ _ 88 [(0, .ref 331), (1, .int r1)] [] (HS I3 L3 X)
            refine w_aload_n (Ev.cm _) rfl rfl ?_
            obtain ⟨⟨r4, I4, L4⟩, e4, q⟩ := obs q
            dsimp only at q
            refine w_cvirt (o := 331) (as := []) (st := []) (Ev.cm _) rfl rfl rfl (Nat.le_of_ble_eq_true rfl) (Nat.le_of_ble_eq_true rfl) rfl (Nat.le_of_ble_eq_true rfl) (eo_M_endOne (g := ?_) e4)
            show Wp _ _ _ _ _ _ _ 92 [(0, .ref 331), (1, .int r1)] [.int r4] (HS I4 L4 X)
            refine w_ireturn (Ev.cm _) rfl trivial rf0 ?_
            cases q
            exact g
          · have c5 : I1 331 9 = 1 := c5
            rw [if_pos c5] at q
            refine w_aload_n (Ev.cm _) rfl rfl ?_
            refine w_getI (Ev.cm _) rfl (Nat.le_of_ble_eq_true rfl) rfl ?_
            refine w_goto (Ev.cm _) rfl ?_
            obtain ⟨⟨r5, I5, L5⟩, e5, q⟩ := obs q
            dsimp only at q
            refine w_cvirt (o := 331) (as := [.int 1, .int (I1 331 10)]) (st := []) (Ev.cm _) rfl rfl rfl (Nat.le_of_ble_eq_true rfl) (Nat.le_of_ble_eq_true rfl) rfl (Nat.le_of_ble_eq_true rfl) (eo_M_emit (g := ?_) e5)
            show Wp _ _ _ _ _ _ _ 84 [(0, .ref 331), (1, .int r1)] [] (HS I5 L5 X)
            refine w_aload_n (Ev.cm _) rfl rfl ?_
            obtain ⟨⟨r6, I6, L6⟩, e6, q⟩ := obs q
            dsimp only at q
            refine w_cvirt (o := 331) (as := []) (st := []) (Ev.cm _) rfl rfl rfl (Nat.le_of_ble_eq_true rfl) (Nat.le_of_ble_eq_true rfl) rfl (Nat.le_of_ble_eq_true rfl) (eo_M_nextToken (g := ?_) e6)
            show Wp _ _ _ _ _ _ _ 88 [(0, .ref 331), (1, .int r1)] [] (HS I6 L6 X)
            refine w_aload_n (Ev.cm _) rfl rfl ?_
            obtain ⟨⟨r7, I7, L7⟩, e7, q⟩ := obs q
            dsimp only at q
            refine w_cvirt (o := 331) (as := []) (st := []) (Ev.cm _) rfl rfl rfl (Nat.le_of_ble_eq_true rfl) (Nat.le_of_ble_eq_true rfl) rfl (Nat.le_of_ble_eq_true rfl) (eo_M_endOne (g := ?_) e7)
            show Wp _ _ _ _ _ _ _ 92 [(0, .ref 331), (1, .int r1)] [.int r7] (HS I7 L7 X)
            refine w_ireturn (Ev.cm _) rfl trivial rf0 ?_
            cases q
            exact g
        · have c4 : I1 331 9 = 1 := c4
          rw [if_pos c4] at q
          refine w_iconst (Ev.cm _) rfl ?_
          refine w_goto (Ev.cm _) rfl ?_
          refine w_aload_n (Ev.cm _) rfl rfl ?_
          refine w_getI (Ev.cm _) rfl (Nat.le_of_ble_eq_true rfl) rfl ?_
          refine w_iconst (Ev.cm _) rfl ?_
          refine w_icmp_ne (Ev.cm _) rfl (fun c6 => ?_) (fun c6 => ?_)
          · have c6 : ¬ (I1 331 9 = 1) := c6
            rw [if_neg c6] at q
            refine w_iload_n (Ev.cm _) rfl rfl ?_
            obtain ⟨⟨r8, I8, L8⟩, e8, q⟩ := obs q
            dsimp only at q
            refine w_cvirt (o := 331) (as := [.int 0, .int r1]) (st := []) (Ev.cm _) rfl rfl rfl (Nat.le_of_ble_eq_true rfl) (Nat.le_of_ble_eq_true rfl) rfl (Nat.le_of_ble_eq_true rfl) (eo_M_emit (g := ?_) e8)
            show Wp _ _ _ _ _ _ _ 84 [(0, .ref 331), (1, .int r1)] [] (HS I8 L8 X)
            refine w_aload_n (Ev.cm _) rfl rfl ?_
            obtain ⟨⟨r9, I9, L9⟩, e9, q⟩ := obs q
            dsimp only at q
            refine w_cvirt (o := 331) (as := []) (st := []) (Ev.cm _) rfl rfl rfl (Nat.le_of_ble_eq_true rfl) (Nat.le_of_ble_eq_true rfl) rfl (Nat.le_of_ble_eq_true rfl) (eo_M_nextToken (g := ?_) e9)
            show Wp _ _ _ _ _ _ _ 88 [(0, .ref 331), (1, .int r1)] [] (HS I9 L9 X)
            refine w_aload_n (Ev.cm _) rfl rfl ?_
            obtain ⟨⟨r10, I10, L10⟩, e10, q⟩ := obs q
            dsimp only at q
            refine w_cvirt (o := 331) (as := []) (st := []) (Ev.cm _) rfl rfl rfl (Nat.le_of_ble_eq_true rfl) (Nat.le_of_ble_eq_true rfl) rfl (Nat.le_of_ble_eq_true rfl) (eo_M_endOne (g := ?_) e10)
            show Wp _ _ _ _ _ _ _ 92 [(0, .ref 331), (1, .int r1)] [.int r10] (HS I10 L10 X)
            refine w_ireturn (Ev.cm _) rfl trivial rf0 ?_
            cases q
            exact g
          · have c6 : I1 331 9 = 1 := c6
            rw [if_pos c6] at q
            refine w_aload_n (Ev.cm _) rfl rfl ?_
            refine w_getI (Ev.cm _) rfl (Nat.le_of_ble_eq_true rfl) rfl ?_
            refine w_goto (Ev.cm _) rfl ?_
            obtain ⟨⟨r11, I11, L11⟩, e11, q⟩ := obs q
            dsimp only at q
            refine w_cvirt (o := 331) (as := [.int 0, .int (I1 331 10)]) (st := []) (Ev.cm _) rfl rfl rfl (Nat.le_of_ble_eq_true rfl) (Nat.le_of_ble_eq_true rfl) rfl (Nat.le_of_ble_eq_true rfl) (eo_M_emit (g := ?_) e11)
            show Wp _ _ _ _ _ _ _ 84 [(0, .ref 331), (1, .int r1)] [] (HS I11 L11 X)
            refine w_aload_n (Ev.cm _) rfl rfl ?_
            obtain ⟨⟨r12, I12, L12⟩, e12, q⟩ := obs q
            dsimp only at q
            refine w_cvirt (o := 331) (as := []) (st := []) (Ev.cm _) rfl rfl rfl (Nat.le_of_ble_eq_true rfl) (Nat.le_of_ble_eq_true rfl) rfl (Nat.le_of_ble_eq_true rfl) (eo_M_nextToken (g := ?_) e12)
            show Wp _ _ _ _ _ _ _ 88 [(0, .ref 331), (1, .int r1)] [] (HS I12 L12 X)
            refine w_aload_n (Ev.cm _) rfl rfl ?_
            obtain ⟨⟨r13, I13, L13⟩, e13, q⟩ := obs q
            dsimp only at q
            refine w_cvirt (o := 331) (as := []) (st := []) (Ev.cm _) rfl rfl rfl (Nat.le_of_ble_eq_true rfl) (Nat.le_of_ble_eq_true rfl) rfl (Nat.le_of_ble_eq_true rfl) (eo_M_endOne (g := ?_) e13)
            show Wp _ _ _ _ _ _ _ 92 [(0, .ref 331), (1, .int r1)] [.int r13] (HS I13 L13 X)
            refine w_ireturn (Ev.cm _) rfl trivial rf0 ?_
            cases q
            exact g
      · have c3 : ¬ (I1 331 9 = 1) := c3
        rw [if_neg c3] at q
        refine w_iload_n (Ev.cm _) rfl rfl ?_
        refine w_if_lt (Ev.cm _) rfl (fun c7 => ?_) (fun c7 => ?_)
        · have c7 : r1 < 0 := c7
          rw [if_pos c7] at q
          refine w_aload_n (Ev.cm _) rfl rfl ?_
          refine w_getI (Ev.cm _) rfl (Nat.le_of_ble_eq_true rfl) rfl ?_
          refine w_bipush (Ev.cm _) rfl ?_
          refine w_icmp_ne (Ev.cm _) rfl (fun c8 => ?_) (fun c8 => ?_)
          · have c8 : ¬ (I1 331 9 = 40) := c8
            rw [if_neg c8] at q
            refine w_aload_n (Ev.cm _) rfl rfl ?_
            refine w_getI (Ev.cm _) rfl (Nat.le_of_ble_eq_true rfl) rfl ?_
            refine w_bipush (Ev.cm _) rfl ?_
            refine w_icmp_ne (Ev.cm _) rfl (fun c9 => ?_) (fun c9 => ?_)
            · have c9 : ¬ (I1 331 9 = 45) := c9
              rw [if_neg c9] at q
              refine w_aload_n (Ev.cm _) rfl rfl ?_
              refine w_bipush (Ev.cm _) rfl ?_
              refine w_bipush (Ev.cm _) rfl ?_
              refine w_bipush (Ev.cm _) rfl ?_
              refine w_bipush (Ev.cm _) rfl ?_
              obtain ⟨⟨r14, I14, L14⟩, e14, q⟩ := obs q
              dsimp only at q
              refine w_cstat (as := [.int 110, .int 101, .int 97, .int 114]) (st := [.ref 331]) (Ev.cm _) rfl rfl rfl (Nat.le_of_ble_eq_true rfl) (Nat.le_of_ble_eq_true rfl) (eo_M_w4 (g := ?_) e14)
              show Wp _ _ _ _ _ _ _ 136 [(0, .ref 331), (1, .int r1)] [.long r14, .ref 331] (HS I14 L14 X)
              obtain ⟨⟨r15, I15, L15⟩, e15, q⟩ := obs q
              dsimp only at q
              refine w_cvirt (o := 331) (as := [.long r14]) (st := []) (Ev.cm _) rfl rfl rfl (Nat.le_of_ble_eq_true rfl) (Nat.le_of_ble_eq_true rfl) rfl (Nat.le_of_ble_eq_true rfl) (eo_M_isWord (g := ?_) e15)
              show Wp _ _ _ _ _ _ _ 139 [(0, .ref 331), (1, .int r1)] [.int r15] (HS I15 L15 X)
              refine w_if_eq (Ev.cm _) rfl (fun c10 => ?_) (fun c10 => ?_)
              · have c10 : r15 = 0 := c10
                rw [if_pos c10] at q
                refine w_aload_n (Ev.cm _) rfl rfl ?_
                refine w_bipush (Ev.cm _) rfl ?_
                refine w_bipush (Ev.cm _) rfl ?_
                refine w_bipush (Ev.cm _) rfl ?_
                refine w_bipush (Ev.cm _) rfl ?_
                obtain ⟨⟨r16, I16, L16⟩, e16, q⟩ := obs q
                dsimp only at q
                refine w_cstat (as := [.int 99, .int 117, .int 112, .int 115]) (st := [.ref 331]) (Ev.cm _) rfl rfl rfl (Nat.le_of_ble_eq_true rfl) (Nat.le_of_ble_eq_true rfl) (eo_M_w4 (g := ?_) e16)
                show Wp _ _ _ _ _ _ _ 161 [(0, .ref 331), (1, .int r1)] [.long r16, .ref 331] (HS I16 L16 X)
                obtain ⟨⟨r17, I17, L17⟩, e17, q⟩ := obs q
                dsimp only at q
                refine w_cvirt (o := 331) (as := [.long r16]) (st := []) (Ev.cm _) rfl rfl rfl (Nat.le_of_ble_eq_true rfl) (Nat.le_of_ble_eq_true rfl) rfl (Nat.le_of_ble_eq_true rfl) (eo_M_isWord (g := ?_) e17)
                show Wp _ _ _ _ _ _ _ 164 [(0, .ref 331), (1, .int r1)] [.int r17] (HS I17 L17 X)
                refine w_if_eq (Ev.cm _) rfl (fun c11 => ?_) (fun c11 => ?_)
                · have c11 : r17 = 0 := c11
                  rw [if_pos c11] at q
                  refine w_aload_n (Ev.cm _) rfl rfl ?_
                  refine w_bipush (Ev.cm _) rfl ?_
                  refine w_bipush (Ev.cm _) rfl ?_
                  obtain ⟨⟨r18, I18, L18⟩, e18, q⟩ := obs q
                  dsimp only at q
                  refine w_cstat (as := [.int 105, .int 102]) (st := [.ref 331]) (Ev.cm _) rfl rfl rfl (Nat.le_of_ble_eq_true rfl) (Nat.le_of_ble_eq_true rfl) (eo_M_w2 (g := ?_) e18)
                  show Wp _ _ _ _ _ _ _ 181 [(0, .ref 331), (1, .int r1)] [.long r18, .ref 331] (HS I18 L18 X)
                  obtain ⟨⟨r19, I19, L19⟩, e19, q⟩ := obs q
                  dsimp only at q
                  refine w_cvirt (o := 331) (as := [.long r18]) (st := []) (Ev.cm _) rfl rfl rfl (Nat.le_of_ble_eq_true rfl) (Nat.le_of_ble_eq_true rfl) rfl (Nat.le_of_ble_eq_true rfl) (eo_M_isWord (g := ?_) e19)
                  show Wp _ _ _ _ _ _ _ 184 [(0, .ref 331), (1, .int r1)] [.int r19] (HS I19 L19 X)
                  refine w_if_eq (Ev.cm _) rfl (fun c12 => ?_) (fun c12 => ?_)
                  · have c12 : r19 = 0 := c12
                    rw [if_pos c12] at q
                    refine w_aload_n (Ev.cm _) rfl rfl ?_
                    refine w_bipush (Ev.cm _) rfl ?_
                    refine w_bipush (Ev.cm _) rfl ?_
                    refine w_bipush (Ev.cm _) rfl ?_
                    obtain ⟨⟨r20, I20, L20⟩, e20, q⟩ := obs q
                    dsimp only at q
                    refine w_cstat (as := [.int 110, .int 111, .int 116]) (st := [.ref 331]) (Ev.cm _) rfl rfl rfl (Nat.le_of_ble_eq_true rfl) (Nat.le_of_ble_eq_true rfl) (eo_M_w3 (g := ?_) e20)
                    show Wp _ _ _ _ _ _ _ 204 [(0, .ref 331), (1, .int r1)] [.long r20, .ref 331] (HS I20 L20 X)
                    obtain ⟨⟨r21, I21, L21⟩, e21, q⟩ := obs q
                    dsimp only at q
                    refine w_cvirt (o := 331) (as := [.long r20]) (st := []) (Ev.cm _) rfl rfl rfl (Nat.le_of_ble_eq_true rfl) (Nat.le_of_ble_eq_true rfl) rfl (Nat.le_of_ble_eq_true rfl) (eo_M_isWord (g := ?_) e21)
                    show Wp _ _ _ _ _ _ _ 207 [(0, .ref 331), (1, .int r1)] [.int r21] (HS I21 L21 X)
                    refine w_if_eq (Ev.cm _) rfl (fun c13 => ?_) (fun c13 => ?_)
                    · have c13 : r21 = 0 := c13
                      rw [if_pos c13] at q
                      refine w_iconst (Ev.cm _) rfl ?_
                      refine w_ireturn (Ev.cm _) rfl trivial rf0 ?_
                      cases q
                      exact g
                    · have c13 : ¬ (r21 = 0) := c13
                      rw [if_neg c13] at q
                      refine w_aload_n (Ev.cm _) rfl rfl ?_
                      obtain ⟨⟨r22, I22, L22⟩, e22, q⟩ := obs q
                      dsimp only at q
                      refine w_cvirt (o := 331) (as := []) (st := []) (Ev.cm _) rfl rfl rfl (Nat.le_of_ble_eq_true rfl) (Nat.le_of_ble_eq_true rfl) rfl (Nat.le_of_ble_eq_true rfl) (eo_M_isAskAhead (g := ?_) e22)
                      show Wp _ _ _ _ _ _ _ 214 [(0, .ref 331), (1, .int r1)] [.int r22] (HS I22 L22 X)
                      refine w_if_eq (Ev.cm _) rfl (fun c14 => ?_) (fun c14 => ?_)
                      · have c14 : r22 = 0 := c14
                        rw [if_pos c14] at q
                        refine w_iconst (Ev.cm _) rfl ?_
                        refine w_ireturn (Ev.cm _) rfl trivial rf0 ?_
                        cases q
                        exact g
                      · have c14 : ¬ (r22 = 0) := c14
                        rw [if_neg c14] at q
                        refine w_aload_n (Ev.cm _) rfl rfl ?_
                        refine w_bipush (Ev.cm _) rfl ?_
                        obtain ⟨⟨r23, I23, L23⟩, e23, q⟩ := obs q
                        dsimp only at q
                        refine w_cvirt (o := 331) (as := [.int 20]) (st := []) (Ev.cm _) rfl rfl rfl (Nat.le_of_ble_eq_true rfl) (Nat.le_of_ble_eq_true rfl) rfl (Nat.le_of_ble_eq_true rfl) (eo_M_opened (g := ?_) e23)
                        show Wp _ _ _ _ _ _ _ 223 [(0, .ref 331), (1, .int r1)] [.int r23] (HS I23 L23 X)
                        refine w_goto (Ev.cm _) rfl ?_
                        refine w_ireturn (Ev.cm _) rfl trivial rf0 ?_
                        cases q
                        exact g
                  · have c12 : ¬ (r19 = 0) := c12
                    rw [if_neg c12] at q
                    refine w_aload_n (Ev.cm _) rfl rfl ?_
                    refine w_bipush (Ev.cm _) rfl ?_
                    obtain ⟨⟨r24, I24, L24⟩, e24, q⟩ := obs q
                    dsimp only at q
                    refine w_cvirt (o := 331) (as := [.int 42]) (st := []) (Ev.cm _) rfl rfl rfl (Nat.le_of_ble_eq_true rfl) (Nat.le_of_ble_eq_true rfl) rfl (Nat.le_of_ble_eq_true rfl) (eo_M_opened (g := ?_) e24)
                    show Wp _ _ _ _ _ _ _ 193 [(0, .ref 331), (1, .int r1)] [.int r24] (HS I24 L24 X)
                    refine w_ireturn (Ev.cm _) rfl trivial rf0 ?_
                    cases q
                    exact g
                · have c11 : ¬ (r17 = 0) := c11
                  rw [if_neg c11] at q
                  refine w_aload_n (Ev.cm _) rfl rfl ?_
                  refine w_iconst (Ev.cm _) rfl ?_
                  obtain ⟨⟨r25, I25, L25⟩, e25, q⟩ := obs q
                  dsimp only at q
                  refine w_cvirt (o := 331) (as := [.int 2]) (st := []) (Ev.cm _) rfl rfl rfl (Nat.le_of_ble_eq_true rfl) (Nat.le_of_ble_eq_true rfl) rfl (Nat.le_of_ble_eq_true rfl) (eo_M_opened (g := ?_) e25)
                  show Wp _ _ _ _ _ _ _ 172 [(0, .ref 331), (1, .int r1)] [.int r25] (HS I25 L25 X)
                  refine w_ireturn (Ev.cm _) rfl trivial rf0 ?_
                  cases q
                  exact g
              · have c10 : ¬ (r15 = 0) := c10
                rw [if_neg c10] at q
                refine w_aload_n (Ev.cm _) rfl rfl ?_
                refine w_bipush (Ev.cm _) rfl ?_
                obtain ⟨⟨r26, I26, L26⟩, e26, q⟩ := obs q
                dsimp only at q
                refine w_cvirt (o := 331) (as := [.int 41]) (st := []) (Ev.cm _) rfl rfl rfl (Nat.le_of_ble_eq_true rfl) (Nat.le_of_ble_eq_true rfl) rfl (Nat.le_of_ble_eq_true rfl) (eo_M_opened (g := ?_) e26)
                show Wp _ _ _ _ _ _ _ 148 [(0, .ref 331), (1, .int r1)] [.int r26] (HS I26 L26 X)
                refine w_ireturn (Ev.cm _) rfl trivial rf0 ?_
                cases q
                exact g
            · have c9 : I1 331 9 = 45 := c9
              rw [if_pos c9] at q
              refine w_aload_n (Ev.cm _) rfl rfl ?_
              refine w_iconst (Ev.cm _) rfl ?_
              obtain ⟨⟨r27, I27, L27⟩, e27, q⟩ := obs q
              dsimp only at q
              refine w_cvirt (o := 331) (as := [.int 5]) (st := []) (Ev.cm _) rfl rfl rfl (Nat.le_of_ble_eq_true rfl) (Nat.le_of_ble_eq_true rfl) rfl (Nat.le_of_ble_eq_true rfl) (eo_M_opened (g := ?_) e27)
              show Wp _ _ _ _ _ _ _ 123 [(0, .ref 331), (1, .int r1)] [.int r27] (HS I27 L27 X)
              refine w_ireturn (Ev.cm _) rfl trivial rf0 ?_
              cases q
              exact g
          · have c8 : I1 331 9 = 40 := c8
            rw [if_pos c8] at q
            refine w_aload_n (Ev.cm _) rfl rfl ?_
            refine w_bipush (Ev.cm _) rfl ?_
            obtain ⟨⟨r28, I28, L28⟩, e28, q⟩ := obs q
            dsimp only at q
            refine w_cvirt (o := 331) (as := [.int 40]) (st := []) (Ev.cm _) rfl rfl rfl (Nat.le_of_ble_eq_true rfl) (Nat.le_of_ble_eq_true rfl) rfl (Nat.le_of_ble_eq_true rfl) (eo_M_opened (g := ?_) e28)
            show Wp _ _ _ _ _ _ _ 108 [(0, .ref 331), (1, .int r1)] [.int r28] (HS I28 L28 X)
            refine w_ireturn (Ev.cm _) rfl trivial rf0 ?_
            cases q
            exact g
        · have c7 : ¬ (r1 < 0) := c7
          rw [if_neg c7] at q
          refine w_aload_n (Ev.cm _) rfl rfl ?_
          refine w_aload_n (Ev.cm _) rfl rfl ?_
          refine w_getI (Ev.cm _) rfl (Nat.le_of_ble_eq_true rfl) rfl ?_
          refine w_iconst (Ev.cm _) rfl ?_
          refine w_icmp_ne (Ev.cm _) rfl (fun c15 => ?_) (fun c15 => ?_)
          · have c15 : ¬ (I1 331 9 = 1) := c15
            rw [if_neg c15] at q
            refine w_iconst (Ev.cm _) rfl ?_
            refine w_aload_n (Ev.cm _) rfl rfl ?_
            refine w_getI (Ev.cm _) rfl (Nat.le_of_ble_eq_true rfl) rfl ?_
            refine w_iconst (Ev.cm _) rfl ?_
            refine w_icmp_ne (Ev.cm _) rfl (fun c16 => ?_) (fun c16 => ?_)
            · have c16 : ¬ (I1 331 9 = 1) := c16
              rw [if_neg c16] at q
              refine w_iload_n (Ev.cm _) rfl rfl ?_
              obtain ⟨⟨r29, I29, L29⟩, e29, q⟩ := obs q
              dsimp only at q
              refine w_cvirt (o := 331) (as := [.int 1, .int r1]) (st := []) (Ev.cm _) rfl rfl rfl (Nat.le_of_ble_eq_true rfl) (Nat.le_of_ble_eq_true rfl) rfl (Nat.le_of_ble_eq_true rfl) (eo_M_emit (g := ?_) e29)
              show Wp _ _ _ _ _ _ _ 84 [(0, .ref 331), (1, .int r1)] [] (HS I29 L29 X)
              refine w_aload_n (Ev.cm _) rfl rfl ?_
              obtain ⟨⟨r30, I30, L30⟩, e30, q⟩ := obs q
              dsimp only at q
              refine w_cvirt (o := 331) (as := []) (st := []) (Ev.cm _) rfl rfl rfl (Nat.le_of_ble_eq_true rfl) (Nat.le_of_ble_eq_true rfl) rfl (Nat.le_of_ble_eq_true rfl) (eo_M_nextToken (g := ?_) e30)
              show Wp _ _ _ _ _ _ _ 88 [(0, .ref 331), (1, .int r1)] [] (HS I30 L30 X)
              refine w_aload_n (Ev.cm _) rfl rfl ?_
              obtain ⟨⟨r31, I31, L31⟩, e31, q⟩ := obs q
              dsimp only at q
              refine w_cvirt (o := 331) (as := []) (st := []) (Ev.cm _) rfl rfl rfl (Nat.le_of_ble_eq_true rfl) (Nat.le_of_ble_eq_true rfl) rfl (Nat.le_of_ble_eq_true rfl) (eo_M_endOne (g := ?_) e31)
              show Wp _ _ _ _ _ _ _ 92 [(0, .ref 331), (1, .int r1)] [.int r31] (HS I31 L31 X)
              refine w_ireturn (Ev.cm _) rfl trivial rf0 ?_
              cases q
              exact g
            · have c16 : I1 331 9 = 1 := c16
              rw [if_pos c16] at q
              refine w_aload_n (Ev.cm _) rfl rfl ?_
              refine w_getI (Ev.cm _) rfl (Nat.le_of_ble_eq_true rfl) rfl ?_
              refine w_goto (Ev.cm _) rfl ?_
              obtain ⟨⟨r32, I32, L32⟩, e32, q⟩ := obs q
              dsimp only at q
              refine w_cvirt (o := 331) (as := [.int 1, .int (I1 331 10)]) (st := []) (Ev.cm _) rfl rfl rfl (Nat.le_of_ble_eq_true rfl) (Nat.le_of_ble_eq_true rfl) rfl (Nat.le_of_ble_eq_true rfl) (eo_M_emit (g := ?_) e32)
              show Wp _ _ _ _ _ _ _ 84 [(0, .ref 331), (1, .int r1)] [] (HS I32 L32 X)
              refine w_aload_n (Ev.cm _) rfl rfl ?_
              obtain ⟨⟨r33, I33, L33⟩, e33, q⟩ := obs q
              dsimp only at q
              refine w_cvirt (o := 331) (as := []) (st := []) (Ev.cm _) rfl rfl rfl (Nat.le_of_ble_eq_true rfl) (Nat.le_of_ble_eq_true rfl) rfl (Nat.le_of_ble_eq_true rfl) (eo_M_nextToken (g := ?_) e33)
              show Wp _ _ _ _ _ _ _ 88 [(0, .ref 331), (1, .int r1)] [] (HS I33 L33 X)
              refine w_aload_n (Ev.cm _) rfl rfl ?_
              obtain ⟨⟨r34, I34, L34⟩, e34, q⟩ := obs q
              dsimp only at q
              refine w_cvirt (o := 331) (as := []) (st := []) (Ev.cm _) rfl rfl rfl (Nat.le_of_ble_eq_true rfl) (Nat.le_of_ble_eq_true rfl) rfl (Nat.le_of_ble_eq_true rfl) (eo_M_endOne (g := ?_) e34)
              show Wp _ _ _ _ _ _ _ 92 [(0, .ref 331), (1, .int r1)] [.int r34] (HS I34 L34 X)
              refine w_ireturn (Ev.cm _) rfl trivial rf0 ?_
              cases q
              exact g
          · have c15 : I1 331 9 = 1 := c15
            rw [if_pos c15] at q
            refine w_iconst (Ev.cm _) rfl ?_
            refine w_goto (Ev.cm _) rfl ?_
            refine w_aload_n (Ev.cm _) rfl rfl ?_
            refine w_getI (Ev.cm _) rfl (Nat.le_of_ble_eq_true rfl) rfl ?_
            refine w_iconst (Ev.cm _) rfl ?_
            refine w_icmp_ne (Ev.cm _) rfl (fun c17 => ?_) (fun c17 => ?_)
            · have c17 : ¬ (I1 331 9 = 1) := c17
              rw [if_neg c17] at q
              refine w_iload_n (Ev.cm _) rfl rfl ?_
              obtain ⟨⟨r35, I35, L35⟩, e35, q⟩ := obs q
              dsimp only at q
              refine w_cvirt (o := 331) (as := [.int 0, .int r1]) (st := []) (Ev.cm _) rfl rfl rfl (Nat.le_of_ble_eq_true rfl) (Nat.le_of_ble_eq_true rfl) rfl (Nat.le_of_ble_eq_true rfl) (eo_M_emit (g := ?_) e35)
              show Wp _ _ _ _ _ _ _ 84 [(0, .ref 331), (1, .int r1)] [] (HS I35 L35 X)
              refine w_aload_n (Ev.cm _) rfl rfl ?_
              obtain ⟨⟨r36, I36, L36⟩, e36, q⟩ := obs q
              dsimp only at q
              refine w_cvirt (o := 331) (as := []) (st := []) (Ev.cm _) rfl rfl rfl (Nat.le_of_ble_eq_true rfl) (Nat.le_of_ble_eq_true rfl) rfl (Nat.le_of_ble_eq_true rfl) (eo_M_nextToken (g := ?_) e36)
              show Wp _ _ _ _ _ _ _ 88 [(0, .ref 331), (1, .int r1)] [] (HS I36 L36 X)
              refine w_aload_n (Ev.cm _) rfl rfl ?_
              obtain ⟨⟨r37, I37, L37⟩, e37, q⟩ := obs q
              dsimp only at q
              refine w_cvirt (o := 331) (as := []) (st := []) (Ev.cm _) rfl rfl rfl (Nat.le_of_ble_eq_true rfl) (Nat.le_of_ble_eq_true rfl) rfl (Nat.le_of_ble_eq_true rfl) (eo_M_endOne (g := ?_) e37)
              show Wp _ _ _ _ _ _ _ 92 [(0, .ref 331), (1, .int r1)] [.int r37] (HS I37 L37 X)
              refine w_ireturn (Ev.cm _) rfl trivial rf0 ?_
              cases q
              exact g
            · have c17 : I1 331 9 = 1 := c17
              rw [if_pos c17] at q
              refine w_aload_n (Ev.cm _) rfl rfl ?_
              refine w_getI (Ev.cm _) rfl (Nat.le_of_ble_eq_true rfl) rfl ?_
              refine w_goto (Ev.cm _) rfl ?_
              obtain ⟨⟨r38, I38, L38⟩, e38, q⟩ := obs q
              dsimp only at q
              refine w_cvirt (o := 331) (as := [.int 0, .int (I1 331 10)]) (st := []) (Ev.cm _) rfl rfl rfl (Nat.le_of_ble_eq_true rfl) (Nat.le_of_ble_eq_true rfl) rfl (Nat.le_of_ble_eq_true rfl) (eo_M_emit (g := ?_) e38)
              show Wp _ _ _ _ _ _ _ 84 [(0, .ref 331), (1, .int r1)] [] (HS I38 L38 X)
              refine w_aload_n (Ev.cm _) rfl rfl ?_
              obtain ⟨⟨r39, I39, L39⟩, e39, q⟩ := obs q
              dsimp only at q
              refine w_cvirt (o := 331) (as := []) (st := []) (Ev.cm _) rfl rfl rfl (Nat.le_of_ble_eq_true rfl) (Nat.le_of_ble_eq_true rfl) rfl (Nat.le_of_ble_eq_true rfl) (eo_M_nextToken (g := ?_) e39)
              show Wp _ _ _ _ _ _ _ 88 [(0, .ref 331), (1, .int r1)] [] (HS I39 L39 X)
              refine w_aload_n (Ev.cm _) rfl rfl ?_
              obtain ⟨⟨r40, I40, L40⟩, e40, q⟩ := obs q
              dsimp only at q
              refine w_cvirt (o := 331) (as := []) (st := []) (Ev.cm _) rfl rfl rfl (Nat.le_of_ble_eq_true rfl) (Nat.le_of_ble_eq_true rfl) rfl (Nat.le_of_ble_eq_true rfl) (eo_M_endOne (g := ?_) e40)
              show Wp _ _ _ _ _ _ _ 92 [(0, .ref 331), (1, .int r1)] [.int r40] (HS I40 L40 X)
              refine w_ireturn (Ev.cm _) rfl trivial rf0 ?_
              cases q
              exact g
    · have c2 : ¬ (r1 ≤ 2) := c2
      rw [if_neg c2] at q
      refine w_aload_n (Ev.cm _) rfl rfl ?_
      refine w_getI (Ev.cm _) rfl (Nat.le_of_ble_eq_true rfl) rfl ?_
      refine w_if_eq (Ev.cm _) rfl (fun c18 => ?_) (fun c18 => ?_)
      · have c18 : I1 331 14 = 0 := c18
        rw [if_pos c18] at q
        refine w_aload_n (Ev.cm _) rfl rfl ?_
        refine w_getI (Ev.cm _) rfl (Nat.le_of_ble_eq_true rfl) rfl ?_
        refine w_iconst (Ev.cm _) rfl ?_
        refine w_icmp_eq (Ev.cm _) rfl (fun c19 => ?_) (fun c19 => ?_)
        · have c19 : I1 331 9 = 1 := c19
          rw [if_pos c19] at q
          refine w_aload_n (Ev.cm _) rfl rfl ?_
          refine w_aload_n (Ev.cm _) rfl rfl ?_
          refine w_getI (Ev.cm _) rfl (Nat.le_of_ble_eq_true rfl) rfl ?_
          refine w_iconst (Ev.cm _) rfl ?_
          refine w_icmp_ne (Ev.cm _) rfl (fun c20 => ?_) (fun c20 => ?_)
          · have c20 : ¬ (I1 331 9 = 1) := c20
            rw [if_neg c20] at q
            refine w_iconst (Ev.cm _) rfl ?_
            refine w_aload_n (Ev.cm _) rfl rfl ?_
            refine w_getI (Ev.cm _) rfl (Nat.le_of_ble_eq_true rfl) rfl ?_
            refine w_iconst (Ev.cm _) rfl ?_
            refine w_icmp_ne (Ev.cm _) rfl (fun c21 => ?_) (fun c21 => ?_)
            · have c21 : ¬ (I1 331 9 = 1) := c21
              rw [if_neg c21] at q
              refine w_iload_n (Ev.cm _) rfl rfl ?_
              obtain ⟨⟨r41, I41, L41⟩, e41, q⟩ := obs q
              dsimp only at q
              refine w_cvirt (o := 331) (as := [.int 1, .int r1]) (st := []) (Ev.cm _) rfl rfl rfl (Nat.le_of_ble_eq_true rfl) (Nat.le_of_ble_eq_true rfl) rfl (Nat.le_of_ble_eq_true rfl) (eo_M_emit (g := ?_) e41)
              show Wp _ _ _ _ _ _ _ 84 [(0, .ref 331), (1, .int r1)] [] (HS I41 L41 X)
              refine w_aload_n (Ev.cm _) rfl rfl ?_
              obtain ⟨⟨r42, I42, L42⟩, e42, q⟩ := obs q
              dsimp only at q
              refine w_cvirt (o := 331) (as := []) (st := []) (Ev.cm _) rfl rfl rfl (Nat.le_of_ble_eq_true rfl) (Nat.le_of_ble_eq_true rfl) rfl (Nat.le_of_ble_eq_true rfl) (eo_M_nextToken (g := ?_) e42)
              show Wp _ _ _ _ _ _ _ 88 [(0, .ref 331), (1, .int r1)] [] (HS I42 L42 X)
              refine w_aload_n (Ev.cm _) rfl rfl ?_
              obtain ⟨⟨r43, I43, L43⟩, e43, q⟩ := obs q
              dsimp only at q
              refine w_cvirt (o := 331) (as := []) (st := []) (Ev.cm _) rfl rfl rfl (Nat.le_of_ble_eq_true rfl) (Nat.le_of_ble_eq_true rfl) rfl (Nat.le_of_ble_eq_true rfl) (eo_M_endOne (g := ?_) e43)
              show Wp _ _ _ _ _ _ _ 92 [(0, .ref 331), (1, .int r1)] [.int r43] (HS I43 L43 X)
              refine w_ireturn (Ev.cm _) rfl trivial rf0 ?_
              cases q
              exact g
            · have c21 : I1 331 9 = 1 := c21
              rw [if_pos c21] at q
              refine w_aload_n (Ev.cm _) rfl rfl ?_
              refine w_getI (Ev.cm _) rfl (Nat.le_of_ble_eq_true rfl) rfl ?_
              refine w_goto (Ev.cm _) rfl ?_
              obtain ⟨⟨r44, I44, L44⟩, e44, q⟩ := obs q
              dsimp only at q
              refine w_cvirt (o := 331) (as := [.int 1, .int (I1 331 10)]) (st := []) (Ev.cm _) rfl rfl rfl (Nat.le_of_ble_eq_true rfl) (Nat.le_of_ble_eq_true rfl) rfl (Nat.le_of_ble_eq_true rfl) (eo_M_emit (g := ?_) e44)
              show Wp _ _ _ _ _ _ _ 84 [(0, .ref 331), (1, .int r1)] [] (HS I44 L44 X)
              refine w_aload_n (Ev.cm _) rfl rfl ?_
              obtain ⟨⟨r45, I45, L45⟩, e45, q⟩ := obs q
              dsimp only at q
              refine w_cvirt (o := 331) (as := []) (st := []) (Ev.cm _) rfl rfl rfl (Nat.le_of_ble_eq_true rfl) (Nat.le_of_ble_eq_true rfl) rfl (Nat.le_of_ble_eq_true rfl) (eo_M_nextToken (g := ?_) e45)
              show Wp _ _ _ _ _ _ _ 88 [(0, .ref 331), (1, .int r1)] [] (HS I45 L45 X)
              refine w_aload_n (Ev.cm _) rfl rfl ?_
              obtain ⟨⟨r46, I46, L46⟩, e46, q⟩ := obs q
              dsimp only at q
              refine w_cvirt (o := 331) (as := []) (st := []) (Ev.cm _) rfl rfl rfl (Nat.le_of_ble_eq_true rfl) (Nat.le_of_ble_eq_true rfl) rfl (Nat.le_of_ble_eq_true rfl) (eo_M_endOne (g := ?_) e46)
              show Wp _ _ _ _ _ _ _ 92 [(0, .ref 331), (1, .int r1)] [.int r46] (HS I46 L46 X)
              refine w_ireturn (Ev.cm _) rfl trivial rf0 ?_
              cases q
              exact g
          · have c20 : I1 331 9 = 1 := c20
            rw [if_pos c20] at q
            refine w_iconst (Ev.cm _) rfl ?_
            refine w_goto (Ev.cm _) rfl ?_
            refine w_aload_n (Ev.cm _) rfl rfl ?_
            refine w_getI (Ev.cm _) rfl (Nat.le_of_ble_eq_true rfl) rfl ?_
            refine w_iconst (Ev.cm _) rfl ?_
            refine w_icmp_ne (Ev.cm _) rfl (fun c22 => ?_) (fun c22 => ?_)
            · have c22 : ¬ (I1 331 9 = 1) := c22
              rw [if_neg c22] at q
              refine w_iload_n (Ev.cm _) rfl rfl ?_
              obtain ⟨⟨r47, I47, L47⟩, e47, q⟩ := obs q
              dsimp only at q
              refine w_cvirt (o := 331) (as := [.int 0, .int r1]) (st := []) (Ev.cm _) rfl rfl rfl (Nat.le_of_ble_eq_true rfl) (Nat.le_of_ble_eq_true rfl) rfl (Nat.le_of_ble_eq_true rfl) (eo_M_emit (g := ?_) e47)
              show Wp _ _ _ _ _ _ _ 84 [(0, .ref 331), (1, .int r1)] [] (HS I47 L47 X)
              refine w_aload_n (Ev.cm _) rfl rfl ?_
              obtain ⟨⟨r48, I48, L48⟩, e48, q⟩ := obs q
              dsimp only at q
              refine w_cvirt (o := 331) (as := []) (st := []) (Ev.cm _) rfl rfl rfl (Nat.le_of_ble_eq_true rfl) (Nat.le_of_ble_eq_true rfl) rfl (Nat.le_of_ble_eq_true rfl) (eo_M_nextToken (g := ?_) e48)
              show Wp _ _ _ _ _ _ _ 88 [(0, .ref 331), (1, .int r1)] [] (HS I48 L48 X)
              refine w_aload_n (Ev.cm _) rfl rfl ?_
              obtain ⟨⟨r49, I49, L49⟩, e49, q⟩ := obs q
              dsimp only at q
              refine w_cvirt (o := 331) (as := []) (st := []) (Ev.cm _) rfl rfl rfl (Nat.le_of_ble_eq_true rfl) (Nat.le_of_ble_eq_true rfl) rfl (Nat.le_of_ble_eq_true rfl) (eo_M_endOne (g := ?_) e49)
              show Wp _ _ _ _ _ _ _ 92 [(0, .ref 331), (1, .int r1)] [.int r49] (HS I49 L49 X)
              refine w_ireturn (Ev.cm _) rfl trivial rf0 ?_
              cases q
              exact g
            · have c22 : I1 331 9 = 1 := c22
              rw [if_pos c22] at q
              refine w_aload_n (Ev.cm _) rfl rfl ?_
              refine w_getI (Ev.cm _) rfl (Nat.le_of_ble_eq_true rfl) rfl ?_
              refine w_goto (Ev.cm _) rfl ?_
              obtain ⟨⟨r50, I50, L50⟩, e50, q⟩ := obs q
              dsimp only at q
              refine w_cvirt (o := 331) (as := [.int 0, .int (I1 331 10)]) (st := []) (Ev.cm _) rfl rfl rfl (Nat.le_of_ble_eq_true rfl) (Nat.le_of_ble_eq_true rfl) rfl (Nat.le_of_ble_eq_true rfl) (eo_M_emit (g := ?_) e50)
              show Wp _ _ _ _ _ _ _ 84 [(0, .ref 331), (1, .int r1)] [] (HS I50 L50 X)
              refine w_aload_n (Ev.cm _) rfl rfl ?_
              obtain ⟨⟨r51, I51, L51⟩, e51, q⟩ := obs q
              dsimp only at q
              refine w_cvirt (o := 331) (as := []) (st := []) (Ev.cm _) rfl rfl rfl (Nat.le_of_ble_eq_true rfl) (Nat.le_of_ble_eq_true rfl) rfl (Nat.le_of_ble_eq_true rfl) (eo_M_nextToken (g := ?_) e51)
              show Wp _ _ _ _ _ _ _ 88 [(0, .ref 331), (1, .int r1)] [] (HS I51 L51 X)
              refine w_aload_n (Ev.cm _) rfl rfl ?_
              obtain ⟨⟨r52, I52, L52⟩, e52, q⟩ := obs q
              dsimp only at q
              refine w_cvirt (o := 331) (as := []) (st := []) (Ev.cm _) rfl rfl rfl (Nat.le_of_ble_eq_true rfl) (Nat.le_of_ble_eq_true rfl) rfl (Nat.le_of_ble_eq_true rfl) (eo_M_endOne (g := ?_) e52)
              show Wp _ _ _ _ _ _ _ 92 [(0, .ref 331), (1, .int r1)] [.int r52] (HS I52 L52 X)
              refine w_ireturn (Ev.cm _) rfl trivial rf0 ?_
              cases q
              exact g
        · have c19 : ¬ (I1 331 9 = 1) := c19
          rw [if_neg c19] at q
          refine w_iload_n (Ev.cm _) rfl rfl ?_
          refine w_if_lt (Ev.cm _) rfl (fun c23 => ?_) (fun c23 => ?_)
          · have c23 : r1 < 0 := c23
            rw [if_pos c23] at q
            refine w_aload_n (Ev.cm _) rfl rfl ?_
            refine w_getI (Ev.cm _) rfl (Nat.le_of_ble_eq_true rfl) rfl ?_
            refine w_bipush (Ev.cm _) rfl ?_
            refine w_icmp_ne (Ev.cm _) rfl (fun c24 => ?_) (fun c24 => ?_)
            · have c24 : ¬ (I1 331 9 = 40) := c24
              rw [if_neg c24] at q
              refine w_aload_n (Ev.cm _) rfl rfl ?_
              refine w_getI (Ev.cm _) rfl (Nat.le_of_ble_eq_true rfl) rfl ?_
              refine w_bipush (Ev.cm _) rfl ?_
              refine w_icmp_ne (Ev.cm _) rfl (fun c25 => ?_) (fun c25 => ?_)
              · have c25 : ¬ (I1 331 9 = 45) := c25
                rw [if_neg c25] at q
                refine w_aload_n (Ev.cm _) rfl rfl ?_
                refine w_bipush (Ev.cm _) rfl ?_
                refine w_bipush (Ev.cm _) rfl ?_
                refine w_bipush (Ev.cm _) rfl ?_
                refine w_bipush (Ev.cm _) rfl ?_
                obtain ⟨⟨r53, I53, L53⟩, e53, q⟩ := obs q
                dsimp only at q
                refine w_cstat (as := [.int 110, .int 101, .int 97, .int 114]) (st := [.ref 331]) (Ev.cm _) rfl rfl rfl (Nat.le_of_ble_eq_true rfl) (Nat.le_of_ble_eq_true rfl) (eo_M_w4 (g := ?_) e53)
                show Wp _ _ _ _ _ _ _ 136 [(0, .ref 331), (1, .int r1)] [.long r53, .ref 331] (HS I53 L53 X)
                obtain ⟨⟨r54, I54, L54⟩, e54, q⟩ := obs q
                dsimp only at q
                refine w_cvirt (o := 331) (as := [.long r53]) (st := []) (Ev.cm _) rfl rfl rfl (Nat.le_of_ble_eq_true rfl) (Nat.le_of_ble_eq_true rfl) rfl (Nat.le_of_ble_eq_true rfl) (eo_M_isWord (g := ?_) e54)
                show Wp _ _ _ _ _ _ _ 139 [(0, .ref 331), (1, .int r1)] [.int r54] (HS I54 L54 X)
                refine w_if_eq (Ev.cm _) rfl (fun c26 => ?_) (fun c26 => ?_)
                · have c26 : r54 = 0 := c26
                  rw [if_pos c26] at q
                  refine w_aload_n (Ev.cm _) rfl rfl ?_
                  refine w_bipush (Ev.cm _) rfl ?_
                  refine w_bipush (Ev.cm _) rfl ?_
                  refine w_bipush (Ev.cm _) rfl ?_
                  refine w_bipush (Ev.cm _) rfl ?_
                  obtain ⟨⟨r55, I55, L55⟩, e55, q⟩ := obs q
                  dsimp only at q
                  refine w_cstat (as := [.int 99, .int 117, .int 112, .int 115]) (st := [.ref 331]) (Ev.cm _) rfl rfl rfl (Nat.le_of_ble_eq_true rfl) (Nat.le_of_ble_eq_true rfl) (eo_M_w4 (g := ?_) e55)
                  show Wp _ _ _ _ _ _ _ 161 [(0, .ref 331), (1, .int r1)] [.long r55, .ref 331] (HS I55 L55 X)
                  obtain ⟨⟨r56, I56, L56⟩, e56, q⟩ := obs q
                  dsimp only at q
                  refine w_cvirt (o := 331) (as := [.long r55]) (st := []) (Ev.cm _) rfl rfl rfl (Nat.le_of_ble_eq_true rfl) (Nat.le_of_ble_eq_true rfl) rfl (Nat.le_of_ble_eq_true rfl) (eo_M_isWord (g := ?_) e56)
                  show Wp _ _ _ _ _ _ _ 164 [(0, .ref 331), (1, .int r1)] [.int r56] (HS I56 L56 X)
                  refine w_if_eq (Ev.cm _) rfl (fun c27 => ?_) (fun c27 => ?_)
                  · have c27 : r56 = 0 := c27
                    rw [if_pos c27] at q
                    refine w_aload_n (Ev.cm _) rfl rfl ?_
                    refine w_bipush (Ev.cm _) rfl ?_
                    refine w_bipush (Ev.cm _) rfl ?_
                    obtain ⟨⟨r57, I57, L57⟩, e57, q⟩ := obs q
                    dsimp only at q
                    refine w_cstat (as := [.int 105, .int 102]) (st := [.ref 331]) (Ev.cm _) rfl rfl rfl (Nat.le_of_ble_eq_true rfl) (Nat.le_of_ble_eq_true rfl) (eo_M_w2 (g := ?_) e57)
                    show Wp _ _ _ _ _ _ _ 181 [(0, .ref 331), (1, .int r1)] [.long r57, .ref 331] (HS I57 L57 X)
                    obtain ⟨⟨r58, I58, L58⟩, e58, q⟩ := obs q
                    dsimp only at q
                    refine w_cvirt (o := 331) (as := [.long r57]) (st := []) (Ev.cm _) rfl rfl rfl (Nat.le_of_ble_eq_true rfl) (Nat.le_of_ble_eq_true rfl) rfl (Nat.le_of_ble_eq_true rfl) (eo_M_isWord (g := ?_) e58)
                    show Wp _ _ _ _ _ _ _ 184 [(0, .ref 331), (1, .int r1)] [.int r58] (HS I58 L58 X)
                    refine w_if_eq (Ev.cm _) rfl (fun c28 => ?_) (fun c28 => ?_)
                    · have c28 : r58 = 0 := c28
                      rw [if_pos c28] at q
                      refine w_aload_n (Ev.cm _) rfl rfl ?_
                      refine w_bipush (Ev.cm _) rfl ?_
                      refine w_bipush (Ev.cm _) rfl ?_
                      refine w_bipush (Ev.cm _) rfl ?_
                      obtain ⟨⟨r59, I59, L59⟩, e59, q⟩ := obs q
                      dsimp only at q
                      refine w_cstat (as := [.int 110, .int 111, .int 116]) (st := [.ref 331]) (Ev.cm _) rfl rfl rfl (Nat.le_of_ble_eq_true rfl) (Nat.le_of_ble_eq_true rfl) (eo_M_w3 (g := ?_) e59)
                      show Wp _ _ _ _ _ _ _ 204 [(0, .ref 331), (1, .int r1)] [.long r59, .ref 331] (HS I59 L59 X)
                      obtain ⟨⟨r60, I60, L60⟩, e60, q⟩ := obs q
                      dsimp only at q
                      refine w_cvirt (o := 331) (as := [.long r59]) (st := []) (Ev.cm _) rfl rfl rfl (Nat.le_of_ble_eq_true rfl) (Nat.le_of_ble_eq_true rfl) rfl (Nat.le_of_ble_eq_true rfl) (eo_M_isWord (g := ?_) e60)
                      show Wp _ _ _ _ _ _ _ 207 [(0, .ref 331), (1, .int r1)] [.int r60] (HS I60 L60 X)
                      refine w_if_eq (Ev.cm _) rfl (fun c29 => ?_) (fun c29 => ?_)
                      · have c29 : r60 = 0 := c29
                        rw [if_pos c29] at q
                        refine w_iconst (Ev.cm _) rfl ?_
                        refine w_ireturn (Ev.cm _) rfl trivial rf0 ?_
                        cases q
                        exact g
                      · have c29 : ¬ (r60 = 0) := c29
                        rw [if_neg c29] at q
                        refine w_aload_n (Ev.cm _) rfl rfl ?_
                        obtain ⟨⟨r61, I61, L61⟩, e61, q⟩ := obs q
                        dsimp only at q
                        refine w_cvirt (o := 331) (as := []) (st := []) (Ev.cm _) rfl rfl rfl (Nat.le_of_ble_eq_true rfl) (Nat.le_of_ble_eq_true rfl) rfl (Nat.le_of_ble_eq_true rfl) (eo_M_isAskAhead (g := ?_) e61)
                        show Wp _ _ _ _ _ _ _ 214 [(0, .ref 331), (1, .int r1)] [.int r61] (HS I61 L61 X)
                        refine w_if_eq (Ev.cm _) rfl (fun c30 => ?_) (fun c30 => ?_)
                        · have c30 : r61 = 0 := c30
                          rw [if_pos c30] at q
                          refine w_iconst (Ev.cm _) rfl ?_
                          refine w_ireturn (Ev.cm _) rfl trivial rf0 ?_
                          cases q
                          exact g
                        · have c30 : ¬ (r61 = 0) := c30
                          rw [if_neg c30] at q
                          refine w_aload_n (Ev.cm _) rfl rfl ?_
                          refine w_bipush (Ev.cm _) rfl ?_
                          obtain ⟨⟨r62, I62, L62⟩, e62, q⟩ := obs q
                          dsimp only at q
                          refine w_cvirt (o := 331) (as := [.int 20]) (st := []) (Ev.cm _) rfl rfl rfl (Nat.le_of_ble_eq_true rfl) (Nat.le_of_ble_eq_true rfl) rfl (Nat.le_of_ble_eq_true rfl) (eo_M_opened (g := ?_) e62)
                          show Wp _ _ _ _ _ _ _ 223 [(0, .ref 331), (1, .int r1)] [.int r62] (HS I62 L62 X)
                          refine w_goto (Ev.cm _) rfl ?_
                          refine w_ireturn (Ev.cm _) rfl trivial rf0 ?_
                          cases q
                          exact g
                    · have c28 : ¬ (r58 = 0) := c28
                      rw [if_neg c28] at q
                      refine w_aload_n (Ev.cm _) rfl rfl ?_
                      refine w_bipush (Ev.cm _) rfl ?_
                      obtain ⟨⟨r63, I63, L63⟩, e63, q⟩ := obs q
                      dsimp only at q
                      refine w_cvirt (o := 331) (as := [.int 42]) (st := []) (Ev.cm _) rfl rfl rfl (Nat.le_of_ble_eq_true rfl) (Nat.le_of_ble_eq_true rfl) rfl (Nat.le_of_ble_eq_true rfl) (eo_M_opened (g := ?_) e63)
                      show Wp _ _ _ _ _ _ _ 193 [(0, .ref 331), (1, .int r1)] [.int r63] (HS I63 L63 X)
                      refine w_ireturn (Ev.cm _) rfl trivial rf0 ?_
                      cases q
                      exact g
                  · have c27 : ¬ (r56 = 0) := c27
                    rw [if_neg c27] at q
                    refine w_aload_n (Ev.cm _) rfl rfl ?_
                    refine w_iconst (Ev.cm _) rfl ?_
                    obtain ⟨⟨r64, I64, L64⟩, e64, q⟩ := obs q
                    dsimp only at q
                    refine w_cvirt (o := 331) (as := [.int 2]) (st := []) (Ev.cm _) rfl rfl rfl (Nat.le_of_ble_eq_true rfl) (Nat.le_of_ble_eq_true rfl) rfl (Nat.le_of_ble_eq_true rfl) (eo_M_opened (g := ?_) e64)
                    show Wp _ _ _ _ _ _ _ 172 [(0, .ref 331), (1, .int r1)] [.int r64] (HS I64 L64 X)
                    refine w_ireturn (Ev.cm _) rfl trivial rf0 ?_
                    cases q
                    exact g
                · have c26 : ¬ (r54 = 0) := c26
                  rw [if_neg c26] at q
                  refine w_aload_n (Ev.cm _) rfl rfl ?_
                  refine w_bipush (Ev.cm _) rfl ?_
                  obtain ⟨⟨r65, I65, L65⟩, e65, q⟩ := obs q
                  dsimp only at q
                  refine w_cvirt (o := 331) (as := [.int 41]) (st := []) (Ev.cm _) rfl rfl rfl (Nat.le_of_ble_eq_true rfl) (Nat.le_of_ble_eq_true rfl) rfl (Nat.le_of_ble_eq_true rfl) (eo_M_opened (g := ?_) e65)
                  show Wp _ _ _ _ _ _ _ 148 [(0, .ref 331), (1, .int r1)] [.int r65] (HS I65 L65 X)
                  refine w_ireturn (Ev.cm _) rfl trivial rf0 ?_
                  cases q
                  exact g
              · have c25 : I1 331 9 = 45 := c25
                rw [if_pos c25] at q
                refine w_aload_n (Ev.cm _) rfl rfl ?_
                refine w_iconst (Ev.cm _) rfl ?_
                obtain ⟨⟨r66, I66, L66⟩, e66, q⟩ := obs q
                dsimp only at q
                refine w_cvirt (o := 331) (as := [.int 5]) (st := []) (Ev.cm _) rfl rfl rfl (Nat.le_of_ble_eq_true rfl) (Nat.le_of_ble_eq_true rfl) rfl (Nat.le_of_ble_eq_true rfl) (eo_M_opened (g := ?_) e66)
                show Wp _ _ _ _ _ _ _ 123 [(0, .ref 331), (1, .int r1)] [.int r66] (HS I66 L66 X)
                refine w_ireturn (Ev.cm _) rfl trivial rf0 ?_
                cases q
                exact g
            · have c24 : I1 331 9 = 40 := c24
              rw [if_pos c24] at q
              refine w_aload_n (Ev.cm _) rfl rfl ?_
              refine w_bipush (Ev.cm _) rfl ?_
              obtain ⟨⟨r67, I67, L67⟩, e67, q⟩ := obs q
              dsimp only at q
              refine w_cvirt (o := 331) (as := [.int 40]) (st := []) (Ev.cm _) rfl rfl rfl (Nat.le_of_ble_eq_true rfl) (Nat.le_of_ble_eq_true rfl) rfl (Nat.le_of_ble_eq_true rfl) (eo_M_opened (g := ?_) e67)
              show Wp _ _ _ _ _ _ _ 108 [(0, .ref 331), (1, .int r1)] [.int r67] (HS I67 L67 X)
              refine w_ireturn (Ev.cm _) rfl trivial rf0 ?_
              cases q
              exact g
          · have c23 : ¬ (r1 < 0) := c23
            rw [if_neg c23] at q
            refine w_aload_n (Ev.cm _) rfl rfl ?_
            refine w_aload_n (Ev.cm _) rfl rfl ?_
            refine w_getI (Ev.cm _) rfl (Nat.le_of_ble_eq_true rfl) rfl ?_
            refine w_iconst (Ev.cm _) rfl ?_
            refine w_icmp_ne (Ev.cm _) rfl (fun c31 => ?_) (fun c31 => ?_)
            · have c31 : ¬ (I1 331 9 = 1) := c31
              rw [if_neg c31] at q
              refine w_iconst (Ev.cm _) rfl ?_
              refine w_aload_n (Ev.cm _) rfl rfl ?_
              refine w_getI (Ev.cm _) rfl (Nat.le_of_ble_eq_true rfl) rfl ?_
              refine w_iconst (Ev.cm _) rfl ?_
              refine w_icmp_ne (Ev.cm _) rfl (fun c32 => ?_) (fun c32 => ?_)
              · have c32 : ¬ (I1 331 9 = 1) := c32
                rw [if_neg c32] at q
                refine w_iload_n (Ev.cm _) rfl rfl ?_
                obtain ⟨⟨r68, I68, L68⟩, e68, q⟩ := obs q
                dsimp only at q
                refine w_cvirt (o := 331) (as := [.int 1, .int r1]) (st := []) (Ev.cm _) rfl rfl rfl (Nat.le_of_ble_eq_true rfl) (Nat.le_of_ble_eq_true rfl) rfl (Nat.le_of_ble_eq_true rfl) (eo_M_emit (g := ?_) e68)
                show Wp _ _ _ _ _ _ _ 84 [(0, .ref 331), (1, .int r1)] [] (HS I68 L68 X)
                refine w_aload_n (Ev.cm _) rfl rfl ?_
                obtain ⟨⟨r69, I69, L69⟩, e69, q⟩ := obs q
                dsimp only at q
                refine w_cvirt (o := 331) (as := []) (st := []) (Ev.cm _) rfl rfl rfl (Nat.le_of_ble_eq_true rfl) (Nat.le_of_ble_eq_true rfl) rfl (Nat.le_of_ble_eq_true rfl) (eo_M_nextToken (g := ?_) e69)
                show Wp _ _ _ _ _ _ _ 88 [(0, .ref 331), (1, .int r1)] [] (HS I69 L69 X)
                refine w_aload_n (Ev.cm _) rfl rfl ?_
                obtain ⟨⟨r70, I70, L70⟩, e70, q⟩ := obs q
                dsimp only at q
                refine w_cvirt (o := 331) (as := []) (st := []) (Ev.cm _) rfl rfl rfl (Nat.le_of_ble_eq_true rfl) (Nat.le_of_ble_eq_true rfl) rfl (Nat.le_of_ble_eq_true rfl) (eo_M_endOne (g := ?_) e70)
                show Wp _ _ _ _ _ _ _ 92 [(0, .ref 331), (1, .int r1)] [.int r70] (HS I70 L70 X)
                refine w_ireturn (Ev.cm _) rfl trivial rf0 ?_
                cases q
                exact g
              · have c32 : I1 331 9 = 1 := c32
                rw [if_pos c32] at q
                refine w_aload_n (Ev.cm _) rfl rfl ?_
                refine w_getI (Ev.cm _) rfl (Nat.le_of_ble_eq_true rfl) rfl ?_
                refine w_goto (Ev.cm _) rfl ?_
                obtain ⟨⟨r71, I71, L71⟩, e71, q⟩ := obs q
                dsimp only at q
                refine w_cvirt (o := 331) (as := [.int 1, .int (I1 331 10)]) (st := []) (Ev.cm _) rfl rfl rfl (Nat.le_of_ble_eq_true rfl) (Nat.le_of_ble_eq_true rfl) rfl (Nat.le_of_ble_eq_true rfl) (eo_M_emit (g := ?_) e71)
                show Wp _ _ _ _ _ _ _ 84 [(0, .ref 331), (1, .int r1)] [] (HS I71 L71 X)
                refine w_aload_n (Ev.cm _) rfl rfl ?_
                obtain ⟨⟨r72, I72, L72⟩, e72, q⟩ := obs q
                dsimp only at q
                refine w_cvirt (o := 331) (as := []) (st := []) (Ev.cm _) rfl rfl rfl (Nat.le_of_ble_eq_true rfl) (Nat.le_of_ble_eq_true rfl) rfl (Nat.le_of_ble_eq_true rfl) (eo_M_nextToken (g := ?_) e72)
                show Wp _ _ _ _ _ _ _ 88 [(0, .ref 331), (1, .int r1)] [] (HS I72 L72 X)
                refine w_aload_n (Ev.cm _) rfl rfl ?_
                obtain ⟨⟨r73, I73, L73⟩, e73, q⟩ := obs q
                dsimp only at q
                refine w_cvirt (o := 331) (as := []) (st := []) (Ev.cm _) rfl rfl rfl (Nat.le_of_ble_eq_true rfl) (Nat.le_of_ble_eq_true rfl) rfl (Nat.le_of_ble_eq_true rfl) (eo_M_endOne (g := ?_) e73)
                show Wp _ _ _ _ _ _ _ 92 [(0, .ref 331), (1, .int r1)] [.int r73] (HS I73 L73 X)
                refine w_ireturn (Ev.cm _) rfl trivial rf0 ?_
                cases q
                exact g
            · have c31 : I1 331 9 = 1 := c31
              rw [if_pos c31] at q
              refine w_iconst (Ev.cm _) rfl ?_
              refine w_goto (Ev.cm _) rfl ?_
              refine w_aload_n (Ev.cm _) rfl rfl ?_
              refine w_getI (Ev.cm _) rfl (Nat.le_of_ble_eq_true rfl) rfl ?_
              refine w_iconst (Ev.cm _) rfl ?_
              refine w_icmp_ne (Ev.cm _) rfl (fun c33 => ?_) (fun c33 => ?_)
              · have c33 : ¬ (I1 331 9 = 1) := c33
                rw [if_neg c33] at q
                refine w_iload_n (Ev.cm _) rfl rfl ?_
                obtain ⟨⟨r74, I74, L74⟩, e74, q⟩ := obs q
                dsimp only at q
                refine w_cvirt (o := 331) (as := [.int 0, .int r1]) (st := []) (Ev.cm _) rfl rfl rfl (Nat.le_of_ble_eq_true rfl) (Nat.le_of_ble_eq_true rfl) rfl (Nat.le_of_ble_eq_true rfl) (eo_M_emit (g := ?_) e74)
                show Wp _ _ _ _ _ _ _ 84 [(0, .ref 331), (1, .int r1)] [] (HS I74 L74 X)
                refine w_aload_n (Ev.cm _) rfl rfl ?_
                obtain ⟨⟨r75, I75, L75⟩, e75, q⟩ := obs q
                dsimp only at q
                refine w_cvirt (o := 331) (as := []) (st := []) (Ev.cm _) rfl rfl rfl (Nat.le_of_ble_eq_true rfl) (Nat.le_of_ble_eq_true rfl) rfl (Nat.le_of_ble_eq_true rfl) (eo_M_nextToken (g := ?_) e75)
                show Wp _ _ _ _ _ _ _ 88 [(0, .ref 331), (1, .int r1)] [] (HS I75 L75 X)
                refine w_aload_n (Ev.cm _) rfl rfl ?_
                obtain ⟨⟨r76, I76, L76⟩, e76, q⟩ := obs q
                dsimp only at q
                refine w_cvirt (o := 331) (as := []) (st := []) (Ev.cm _) rfl rfl rfl (Nat.le_of_ble_eq_true rfl) (Nat.le_of_ble_eq_true rfl) rfl (Nat.le_of_ble_eq_true rfl) (eo_M_endOne (g := ?_) e76)
                show Wp _ _ _ _ _ _ _ 92 [(0, .ref 331), (1, .int r1)] [.int r76] (HS I76 L76 X)
                refine w_ireturn (Ev.cm _) rfl trivial rf0 ?_
                cases q
                exact g
              · have c33 : I1 331 9 = 1 := c33
                rw [if_pos c33] at q
                refine w_aload_n (Ev.cm _) rfl rfl ?_
                refine w_getI (Ev.cm _) rfl (Nat.le_of_ble_eq_true rfl) rfl ?_
                refine w_goto (Ev.cm _) rfl ?_
                obtain ⟨⟨r77, I77, L77⟩, e77, q⟩ := obs q
                dsimp only at q
                refine w_cvirt (o := 331) (as := [.int 0, .int (I1 331 10)]) (st := []) (Ev.cm _) rfl rfl rfl (Nat.le_of_ble_eq_true rfl) (Nat.le_of_ble_eq_true rfl) rfl (Nat.le_of_ble_eq_true rfl) (eo_M_emit (g := ?_) e77)
                show Wp _ _ _ _ _ _ _ 84 [(0, .ref 331), (1, .int r1)] [] (HS I77 L77 X)
                refine w_aload_n (Ev.cm _) rfl rfl ?_
                obtain ⟨⟨r78, I78, L78⟩, e78, q⟩ := obs q
                dsimp only at q
                refine w_cvirt (o := 331) (as := []) (st := []) (Ev.cm _) rfl rfl rfl (Nat.le_of_ble_eq_true rfl) (Nat.le_of_ble_eq_true rfl) rfl (Nat.le_of_ble_eq_true rfl) (eo_M_nextToken (g := ?_) e78)
                show Wp _ _ _ _ _ _ _ 88 [(0, .ref 331), (1, .int r1)] [] (HS I78 L78 X)
                refine w_aload_n (Ev.cm _) rfl rfl ?_
                obtain ⟨⟨r79, I79, L79⟩, e79, q⟩ := obs q
                dsimp only at q
                refine w_cvirt (o := 331) (as := []) (st := []) (Ev.cm _) rfl rfl rfl (Nat.le_of_ble_eq_true rfl) (Nat.le_of_ble_eq_true rfl) rfl (Nat.le_of_ble_eq_true rfl) (eo_M_endOne (g := ?_) e79)
                show Wp _ _ _ _ _ _ _ 92 [(0, .ref 331), (1, .int r1)] [.int r79] (HS I79 L79 X)
                refine w_ireturn (Ev.cm _) rfl trivial rf0 ?_
                cases q
                exact g
      · have c18 : ¬ (I1 331 14 = 0) := c18
        rw [if_neg c18] at q
        refine w_iconst (Ev.cm _) rfl ?_
        refine w_ireturn (Ev.cm _) rfl trivial rf0 ?_
        cases q
        exact g
  · have c1 : I 331 9 = 1 := c1
    rw [if_pos c1] at q
    refine w_aload_n (Ev.cm _) rfl rfl ?_
    refine w_getI (Ev.cm _) rfl (Nat.le_of_ble_eq_true rfl) rfl ?_
    refine w_sipush (Ev.cm _) rfl ?_
    refine w_icmp_le (Ev.cm _) rfl (fun c34 => ?_) (fun c34 => ?_)
    · have c34 : I 331 10 ≤ 9999 := c34
      rw [if_pos c34] at q
      refine w_aload_n (Ev.cm _) rfl rfl ?_
      obtain ⟨⟨r80, I80, L80⟩, e80, q⟩ := obs q
      dsimp only at q
      refine w_cvirt (o := 331) (as := []) (st := []) (Ev.cm _) rfl rfl rfl (Nat.le_of_ble_eq_true rfl) (Nat.le_of_ble_eq_true rfl) rfl (Nat.le_of_ble_eq_true rfl) (eo_M_nameOf (g := ?_) e80)
      show Wp _ _ _ _ _ _ _ 24 [(0, .ref 331)] [.int r80] (HS I80 L80 X)
      refine w_istore_n (ls2 := [(0, .ref 331), (1, .int r80)]) (Ev.cm _) rfl rfl ?_
      refine w_iload_n (Ev.cm _) rfl rfl ?_
      refine w_iconst (Ev.cm _) rfl ?_
      refine w_icmp_le (Ev.cm _) rfl (fun c35 => ?_) (fun c35 => ?_)
      · have c35 : r80 ≤ 2 := c35
        rw [if_pos c35] at q
        refine w_aload_n (Ev.cm _) rfl rfl ?_
        refine w_getI (Ev.cm _) rfl (Nat.le_of_ble_eq_true rfl) rfl ?_
        refine w_iconst (Ev.cm _) rfl ?_
        refine w_icmp_eq (Ev.cm _) rfl (fun c36 => ?_) (fun c36 => ?_)
        · have c36 : I80 331 9 = 1 := c36
          rw [if_pos c36] at q
          refine w_aload_n (Ev.cm _) rfl rfl ?_
          refine w_aload_n (Ev.cm _) rfl rfl ?_
          refine w_getI (Ev.cm _) rfl (Nat.le_of_ble_eq_true rfl) rfl ?_
          refine w_iconst (Ev.cm _) rfl ?_
          refine w_icmp_ne (Ev.cm _) rfl (fun c37 => ?_) (fun c37 => ?_)
          · have c37 : ¬ (I80 331 9 = 1) := c37
            rw [if_neg c37] at q
            refine w_iconst (Ev.cm _) rfl ?_
            refine w_aload_n (Ev.cm _) rfl rfl ?_
            refine w_getI (Ev.cm _) rfl (Nat.le_of_ble_eq_true rfl) rfl ?_
            refine w_iconst (Ev.cm _) rfl ?_
            refine w_icmp_ne (Ev.cm _) rfl (fun c38 => ?_) (fun c38 => ?_)
            · have c38 : ¬ (I80 331 9 = 1) := c38
              rw [if_neg c38] at q
              refine w_iload_n (Ev.cm _) rfl rfl ?_
              obtain ⟨⟨r81, I81, L81⟩, e81, q⟩ := obs q
              dsimp only at q
              refine w_cvirt (o := 331) (as := [.int 1, .int r80]) (st := []) (Ev.cm _) rfl rfl rfl (Nat.le_of_ble_eq_true rfl) (Nat.le_of_ble_eq_true rfl) rfl (Nat.le_of_ble_eq_true rfl) (eo_M_emit (g := ?_) e81)
              show Wp _ _ _ _ _ _ _ 84 [(0, .ref 331), (1, .int r80)] [] (HS I81 L81 X)
              refine w_aload_n (Ev.cm _) rfl rfl ?_
              obtain ⟨⟨r82, I82, L82⟩, e82, q⟩ := obs q
              dsimp only at q
              refine w_cvirt (o := 331) (as := []) (st := []) (Ev.cm _) rfl rfl rfl (Nat.le_of_ble_eq_true rfl) (Nat.le_of_ble_eq_true rfl) rfl (Nat.le_of_ble_eq_true rfl) (eo_M_nextToken (g := ?_) e82)
              show Wp _ _ _ _ _ _ _ 88 [(0, .ref 331), (1, .int r80)] [] (HS I82 L82 X)
              refine w_aload_n (Ev.cm _) rfl rfl ?_
              obtain ⟨⟨r83, I83, L83⟩, e83, q⟩ := obs q
              dsimp only at q
              refine w_cvirt (o := 331) (as := []) (st := []) (Ev.cm _) rfl rfl rfl (Nat.le_of_ble_eq_true rfl) (Nat.le_of_ble_eq_true rfl) rfl (Nat.le_of_ble_eq_true rfl) (eo_M_endOne (g := ?_) e83)
              show Wp _ _ _ _ _ _ _ 92 [(0, .ref 331), (1, .int r80)] [.int r83] (HS I83 L83 X)
              refine w_ireturn (Ev.cm _) rfl trivial rf0 ?_
              cases q
              exact g
            · have c38 : I80 331 9 = 1 := c38
              rw [if_pos c38] at q
              refine w_aload_n (Ev.cm _) rfl rfl ?_
              refine w_getI (Ev.cm _) rfl (Nat.le_of_ble_eq_true rfl) rfl ?_
              refine w_goto (Ev.cm _) rfl ?_
              obtain ⟨⟨r84, I84, L84⟩, e84, q⟩ := obs q
              dsimp only at q
              refine w_cvirt (o := 331) (as := [.int 1, .int (I80 331 10)]) (st := []) (Ev.cm _) rfl rfl rfl (Nat.le_of_ble_eq_true rfl) (Nat.le_of_ble_eq_true rfl) rfl (Nat.le_of_ble_eq_true rfl) (eo_M_emit (g := ?_) e84)
              show Wp _ _ _ _ _ _ _ 84 [(0, .ref 331), (1, .int r80)] [] (HS I84 L84 X)
              refine w_aload_n (Ev.cm _) rfl rfl ?_
              obtain ⟨⟨r85, I85, L85⟩, e85, q⟩ := obs q
              dsimp only at q
              refine w_cvirt (o := 331) (as := []) (st := []) (Ev.cm _) rfl rfl rfl (Nat.le_of_ble_eq_true rfl) (Nat.le_of_ble_eq_true rfl) rfl (Nat.le_of_ble_eq_true rfl) (eo_M_nextToken (g := ?_) e85)
              show Wp _ _ _ _ _ _ _ 88 [(0, .ref 331), (1, .int r80)] [] (HS I85 L85 X)
              refine w_aload_n (Ev.cm _) rfl rfl ?_
              obtain ⟨⟨r86, I86, L86⟩, e86, q⟩ := obs q
              dsimp only at q
              refine w_cvirt (o := 331) (as := []) (st := []) (Ev.cm _) rfl rfl rfl (Nat.le_of_ble_eq_true rfl) (Nat.le_of_ble_eq_true rfl) rfl (Nat.le_of_ble_eq_true rfl) (eo_M_endOne (g := ?_) e86)
              show Wp _ _ _ _ _ _ _ 92 [(0, .ref 331), (1, .int r80)] [.int r86] (HS I86 L86 X)
              refine w_ireturn (Ev.cm _) rfl trivial rf0 ?_
              cases q
              exact g
          · have c37 : I80 331 9 = 1 := c37
            rw [if_pos c37] at q
            refine w_iconst (Ev.cm _) rfl ?_
            refine w_goto (Ev.cm _) rfl ?_
            refine w_aload_n (Ev.cm _) rfl rfl ?_
            refine w_getI (Ev.cm _) rfl (Nat.le_of_ble_eq_true rfl) rfl ?_
            refine w_iconst (Ev.cm _) rfl ?_
            refine w_icmp_ne (Ev.cm _) rfl (fun c39 => ?_) (fun c39 => ?_)
            · have c39 : ¬ (I80 331 9 = 1) := c39
              rw [if_neg c39] at q
              refine w_iload_n (Ev.cm _) rfl rfl ?_
              obtain ⟨⟨r87, I87, L87⟩, e87, q⟩ := obs q
              dsimp only at q
              refine w_cvirt (o := 331) (as := [.int 0, .int r80]) (st := []) (Ev.cm _) rfl rfl rfl (Nat.le_of_ble_eq_true rfl) (Nat.le_of_ble_eq_true rfl) rfl (Nat.le_of_ble_eq_true rfl) (eo_M_emit (g := ?_) e87)
              show Wp _ _ _ _ _ _ _ 84 [(0, .ref 331), (1, .int r80)] [] (HS I87 L87 X)
              refine w_aload_n (Ev.cm _) rfl rfl ?_
              obtain ⟨⟨r88, I88, L88⟩, e88, q⟩ := obs q
              dsimp only at q
              refine w_cvirt (o := 331) (as := []) (st := []) (Ev.cm _) rfl rfl rfl (Nat.le_of_ble_eq_true rfl) (Nat.le_of_ble_eq_true rfl) rfl (Nat.le_of_ble_eq_true rfl) (eo_M_nextToken (g := ?_) e88)
              show Wp _ _ _ _ _ _ _ 88 [(0, .ref 331), (1, .int r80)] [] (HS I88 L88 X)
              refine w_aload_n (Ev.cm _) rfl rfl ?_
              obtain ⟨⟨r89, I89, L89⟩, e89, q⟩ := obs q
              dsimp only at q
              refine w_cvirt (o := 331) (as := []) (st := []) (Ev.cm _) rfl rfl rfl (Nat.le_of_ble_eq_true rfl) (Nat.le_of_ble_eq_true rfl) rfl (Nat.le_of_ble_eq_true rfl) (eo_M_endOne (g := ?_) e89)
              show Wp _ _ _ _ _ _ _ 92 [(0, .ref 331), (1, .int r80)] [.int r89] (HS I89 L89 X)
              refine w_ireturn (Ev.cm _) rfl trivial rf0 ?_
              cases q
              exact g
            · have c39 : I80 331 9 = 1 := c39
              rw [if_pos c39] at q
              refine w_aload_n (Ev.cm _) rfl rfl ?_
              refine w_getI (Ev.cm _) rfl (Nat.le_of_ble_eq_true rfl) rfl ?_
              refine w_goto (Ev.cm _) rfl ?_
              obtain ⟨⟨r90, I90, L90⟩, e90, q⟩ := obs q
              dsimp only at q
              refine w_cvirt (o := 331) (as := [.int 0, .int (I80 331 10)]) (st := []) (Ev.cm _) rfl rfl rfl (Nat.le_of_ble_eq_true rfl) (Nat.le_of_ble_eq_true rfl) rfl (Nat.le_of_ble_eq_true rfl) (eo_M_emit (g := ?_) e90)
              show Wp _ _ _ _ _ _ _ 84 [(0, .ref 331), (1, .int r80)] [] (HS I90 L90 X)
              refine w_aload_n (Ev.cm _) rfl rfl ?_
              obtain ⟨⟨r91, I91, L91⟩, e91, q⟩ := obs q
              dsimp only at q
              refine w_cvirt (o := 331) (as := []) (st := []) (Ev.cm _) rfl rfl rfl (Nat.le_of_ble_eq_true rfl) (Nat.le_of_ble_eq_true rfl) rfl (Nat.le_of_ble_eq_true rfl) (eo_M_nextToken (g := ?_) e91)
              show Wp _ _ _ _ _ _ _ 88 [(0, .ref 331), (1, .int r80)] [] (HS I91 L91 X)
              refine w_aload_n (Ev.cm _) rfl rfl ?_
              obtain ⟨⟨r92, I92, L92⟩, e92, q⟩ := obs q
              dsimp only at q
              refine w_cvirt (o := 331) (as := []) (st := []) (Ev.cm _) rfl rfl rfl (Nat.le_of_ble_eq_true rfl) (Nat.le_of_ble_eq_true rfl) rfl (Nat.le_of_ble_eq_true rfl) (eo_M_endOne (g := ?_) e92)
              show Wp _ _ _ _ _ _ _ 92 [(0, .ref 331), (1, .int r80)] [.int r92] (HS I92 L92 X)
              refine w_ireturn (Ev.cm _) rfl trivial rf0 ?_
              cases q
              exact g
        · have c36 : ¬ (I80 331 9 = 1) := c36
          rw [if_neg c36] at q
          refine w_iload_n (Ev.cm _) rfl rfl ?_
          refine w_if_lt (Ev.cm _) rfl (fun c40 => ?_) (fun c40 => ?_)
          · have c40 : r80 < 0 := c40
            rw [if_pos c40] at q
            refine w_aload_n (Ev.cm _) rfl rfl ?_
            refine w_getI (Ev.cm _) rfl (Nat.le_of_ble_eq_true rfl) rfl ?_
            refine w_bipush (Ev.cm _) rfl ?_
            refine w_icmp_ne (Ev.cm _) rfl (fun c41 => ?_) (fun c41 => ?_)
            · have c41 : ¬ (I80 331 9 = 40) := c41
              rw [if_neg c41] at q
              refine w_aload_n (Ev.cm _) rfl rfl ?_
              refine w_getI (Ev.cm _) rfl (Nat.le_of_ble_eq_true rfl) rfl ?_
              refine w_bipush (Ev.cm _) rfl ?_
              refine w_icmp_ne (Ev.cm _) rfl (fun c42 => ?_) (fun c42 => ?_)
              · have c42 : ¬ (I80 331 9 = 45) := c42
                rw [if_neg c42] at q
                refine w_aload_n (Ev.cm _) rfl rfl ?_
                refine w_bipush (Ev.cm _) rfl ?_
                refine w_bipush (Ev.cm _) rfl ?_
                refine w_bipush (Ev.cm _) rfl ?_
                refine w_bipush (Ev.cm _) rfl ?_
                obtain ⟨⟨r93, I93, L93⟩, e93, q⟩ := obs q
                dsimp only at q
                refine w_cstat (as := [.int 110, .int 101, .int 97, .int 114]) (st := [.ref 331]) (Ev.cm _) rfl rfl rfl (Nat.le_of_ble_eq_true rfl) (Nat.le_of_ble_eq_true rfl) (eo_M_w4 (g := ?_) e93)
                show Wp _ _ _ _ _ _ _ 136 [(0, .ref 331), (1, .int r80)] [.long r93, .ref 331] (HS I93 L93 X)
                obtain ⟨⟨r94, I94, L94⟩, e94, q⟩ := obs q
                dsimp only at q
                refine w_cvirt (o := 331) (as := [.long r93]) (st := []) (Ev.cm _) rfl rfl rfl (Nat.le_of_ble_eq_true rfl) (Nat.le_of_ble_eq_true rfl) rfl (Nat.le_of_ble_eq_true rfl) (eo_M_isWord (g := ?_) e94)
                show Wp _ _ _ _ _ _ _ 139 [(0, .ref 331), (1, .int r80)] [.int r94] (HS I94 L94 X)
                refine w_if_eq (Ev.cm _) rfl (fun c43 => ?_) (fun c43 => ?_)
                · have c43 : r94 = 0 := c43
                  rw [if_pos c43] at q
                  refine w_aload_n (Ev.cm _) rfl rfl ?_
                  refine w_bipush (Ev.cm _) rfl ?_
                  refine w_bipush (Ev.cm _) rfl ?_
                  refine w_bipush (Ev.cm _) rfl ?_
                  refine w_bipush (Ev.cm _) rfl ?_
                  obtain ⟨⟨r95, I95, L95⟩, e95, q⟩ := obs q
                  dsimp only at q
                  refine w_cstat (as := [.int 99, .int 117, .int 112, .int 115]) (st := [.ref 331]) (Ev.cm _) rfl rfl rfl (Nat.le_of_ble_eq_true rfl) (Nat.le_of_ble_eq_true rfl) (eo_M_w4 (g := ?_) e95)
                  show Wp _ _ _ _ _ _ _ 161 [(0, .ref 331), (1, .int r80)] [.long r95, .ref 331] (HS I95 L95 X)
                  obtain ⟨⟨r96, I96, L96⟩, e96, q⟩ := obs q
                  dsimp only at q
                  refine w_cvirt (o := 331) (as := [.long r95]) (st := []) (Ev.cm _) rfl rfl rfl (Nat.le_of_ble_eq_true rfl) (Nat.le_of_ble_eq_true rfl) rfl (Nat.le_of_ble_eq_true rfl) (eo_M_isWord (g := ?_) e96)
                  show Wp _ _ _ _ _ _ _ 164 [(0, .ref 331), (1, .int r80)] [.int r96] (HS I96 L96 X)
                  refine w_if_eq (Ev.cm _) rfl (fun c44 => ?_) (fun c44 => ?_)
                  · have c44 : r96 = 0 := c44
                    rw [if_pos c44] at q
                    refine w_aload_n (Ev.cm _) rfl rfl ?_
                    refine w_bipush (Ev.cm _) rfl ?_
                    refine w_bipush (Ev.cm _) rfl ?_
                    obtain ⟨⟨r97, I97, L97⟩, e97, q⟩ := obs q
                    dsimp only at q
                    refine w_cstat (as := [.int 105, .int 102]) (st := [.ref 331]) (Ev.cm _) rfl rfl rfl (Nat.le_of_ble_eq_true rfl) (Nat.le_of_ble_eq_true rfl) (eo_M_w2 (g := ?_) e97)
                    show Wp _ _ _ _ _ _ _ 181 [(0, .ref 331), (1, .int r80)] [.long r97, .ref 331] (HS I97 L97 X)
                    obtain ⟨⟨r98, I98, L98⟩, e98, q⟩ := obs q
                    dsimp only at q
                    refine w_cvirt (o := 331) (as := [.long r97]) (st := []) (Ev.cm _) rfl rfl rfl (Nat.le_of_ble_eq_true rfl) (Nat.le_of_ble_eq_true rfl) rfl (Nat.le_of_ble_eq_true rfl) (eo_M_isWord (g := ?_) e98)
                    show Wp _ _ _ _ _ _ _ 184 [(0, .ref 331), (1, .int r80)] [.int r98] (HS I98 L98 X)
                    refine w_if_eq (Ev.cm _) rfl (fun c45 => ?_) (fun c45 => ?_)
                    · have c45 : r98 = 0 := c45
                      rw [if_pos c45] at q
                      refine w_aload_n (Ev.cm _) rfl rfl ?_
                      refine w_bipush (Ev.cm _) rfl ?_
                      refine w_bipush (Ev.cm _) rfl ?_
                      refine w_bipush (Ev.cm _) rfl ?_
                      obtain ⟨⟨r99, I99, L99⟩, e99, q⟩ := obs q
                      dsimp only at q
                      refine w_cstat (as := [.int 110, .int 111, .int 116]) (st := [.ref 331]) (Ev.cm _) rfl rfl rfl (Nat.le_of_ble_eq_true rfl) (Nat.le_of_ble_eq_true rfl) (eo_M_w3 (g := ?_) e99)
                      show Wp _ _ _ _ _ _ _ 204 [(0, .ref 331), (1, .int r80)] [.long r99, .ref 331] (HS I99 L99 X)
                      obtain ⟨⟨r100, I100, L100⟩, e100, q⟩ := obs q
                      dsimp only at q
                      refine w_cvirt (o := 331) (as := [.long r99]) (st := []) (Ev.cm _) rfl rfl rfl (Nat.le_of_ble_eq_true rfl) (Nat.le_of_ble_eq_true rfl) rfl (Nat.le_of_ble_eq_true rfl) (eo_M_isWord (g := ?_) e100)
                      show Wp _ _ _ _ _ _ _ 207 [(0, .ref 331), (1, .int r80)] [.int r100] (HS I100 L100 X)
                      refine w_if_eq (Ev.cm _) rfl (fun c46 => ?_) (fun c46 => ?_)
                      · have c46 : r100 = 0 := c46
                        rw [if_pos c46] at q
                        refine w_iconst (Ev.cm _) rfl ?_
                        refine w_ireturn (Ev.cm _) rfl trivial rf0 ?_
                        cases q
                        exact g
                      · have c46 : ¬ (r100 = 0) := c46
                        rw [if_neg c46] at q
                        refine w_aload_n (Ev.cm _) rfl rfl ?_
                        obtain ⟨⟨r101, I101, L101⟩, e101, q⟩ := obs q
                        dsimp only at q
                        refine w_cvirt (o := 331) (as := []) (st := []) (Ev.cm _) rfl rfl rfl (Nat.le_of_ble_eq_true rfl) (Nat.le_of_ble_eq_true rfl) rfl (Nat.le_of_ble_eq_true rfl) (eo_M_isAskAhead (g := ?_) e101)
                        show Wp _ _ _ _ _ _ _ 214 [(0, .ref 331), (1, .int r80)] [.int r101] (HS I101 L101 X)
                        refine w_if_eq (Ev.cm _) rfl (fun c47 => ?_) (fun c47 => ?_)
                        · have c47 : r101 = 0 := c47
                          rw [if_pos c47] at q
                          refine w_iconst (Ev.cm _) rfl ?_
                          refine w_ireturn (Ev.cm _) rfl trivial rf0 ?_
                          cases q
                          exact g
                        · have c47 : ¬ (r101 = 0) := c47
                          rw [if_neg c47] at q
                          refine w_aload_n (Ev.cm _) rfl rfl ?_
                          refine w_bipush (Ev.cm _) rfl ?_
                          obtain ⟨⟨r102, I102, L102⟩, e102, q⟩ := obs q
                          dsimp only at q
                          refine w_cvirt (o := 331) (as := [.int 20]) (st := []) (Ev.cm _) rfl rfl rfl (Nat.le_of_ble_eq_true rfl) (Nat.le_of_ble_eq_true rfl) rfl (Nat.le_of_ble_eq_true rfl) (eo_M_opened (g := ?_) e102)
                          show Wp _ _ _ _ _ _ _ 223 [(0, .ref 331), (1, .int r80)] [.int r102] (HS I102 L102 X)
                          refine w_goto (Ev.cm _) rfl ?_
                          refine w_ireturn (Ev.cm _) rfl trivial rf0 ?_
                          cases q
                          exact g
                    · have c45 : ¬ (r98 = 0) := c45
                      rw [if_neg c45] at q
                      refine w_aload_n (Ev.cm _) rfl rfl ?_
                      refine w_bipush (Ev.cm _) rfl ?_
                      obtain ⟨⟨r103, I103, L103⟩, e103, q⟩ := obs q
                      dsimp only at q
                      refine w_cvirt (o := 331) (as := [.int 42]) (st := []) (Ev.cm _) rfl rfl rfl (Nat.le_of_ble_eq_true rfl) (Nat.le_of_ble_eq_true rfl) rfl (Nat.le_of_ble_eq_true rfl) (eo_M_opened (g := ?_) e103)
                      show Wp _ _ _ _ _ _ _ 193 [(0, .ref 331), (1, .int r80)] [.int r103] (HS I103 L103 X)
                      refine w_ireturn (Ev.cm _) rfl trivial rf0 ?_
                      cases q
                      exact g
                  · have c44 : ¬ (r96 = 0) := c44
                    rw [if_neg c44] at q
                    refine w_aload_n (Ev.cm _) rfl rfl ?_
                    refine w_iconst (Ev.cm _) rfl ?_
                    obtain ⟨⟨r104, I104, L104⟩, e104, q⟩ := obs q
                    dsimp only at q
                    refine w_cvirt (o := 331) (as := [.int 2]) (st := []) (Ev.cm _) rfl rfl rfl (Nat.le_of_ble_eq_true rfl) (Nat.le_of_ble_eq_true rfl) rfl (Nat.le_of_ble_eq_true rfl) (eo_M_opened (g := ?_) e104)
                    show Wp _ _ _ _ _ _ _ 172 [(0, .ref 331), (1, .int r80)] [.int r104] (HS I104 L104 X)
                    refine w_ireturn (Ev.cm _) rfl trivial rf0 ?_
                    cases q
                    exact g
                · have c43 : ¬ (r94 = 0) := c43
                  rw [if_neg c43] at q
                  refine w_aload_n (Ev.cm _) rfl rfl ?_
                  refine w_bipush (Ev.cm _) rfl ?_
                  obtain ⟨⟨r105, I105, L105⟩, e105, q⟩ := obs q
                  dsimp only at q
                  refine w_cvirt (o := 331) (as := [.int 41]) (st := []) (Ev.cm _) rfl rfl rfl (Nat.le_of_ble_eq_true rfl) (Nat.le_of_ble_eq_true rfl) rfl (Nat.le_of_ble_eq_true rfl) (eo_M_opened (g := ?_) e105)
                  show Wp _ _ _ _ _ _ _ 148 [(0, .ref 331), (1, .int r80)] [.int r105] (HS I105 L105 X)
                  refine w_ireturn (Ev.cm _) rfl trivial rf0 ?_
                  cases q
                  exact g
              · have c42 : I80 331 9 = 45 := c42
                rw [if_pos c42] at q
                refine w_aload_n (Ev.cm _) rfl rfl ?_
                refine w_iconst (Ev.cm _) rfl ?_
                obtain ⟨⟨r106, I106, L106⟩, e106, q⟩ := obs q
                dsimp only at q
                refine w_cvirt (o := 331) (as := [.int 5]) (st := []) (Ev.cm _) rfl rfl rfl (Nat.le_of_ble_eq_true rfl) (Nat.le_of_ble_eq_true rfl) rfl (Nat.le_of_ble_eq_true rfl) (eo_M_opened (g := ?_) e106)
                show Wp _ _ _ _ _ _ _ 123 [(0, .ref 331), (1, .int r80)] [.int r106] (HS I106 L106 X)
                refine w_ireturn (Ev.cm _) rfl trivial rf0 ?_
                cases q
                exact g
            · have c41 : I80 331 9 = 40 := c41
              rw [if_pos c41] at q
              refine w_aload_n (Ev.cm _) rfl rfl ?_
              refine w_bipush (Ev.cm _) rfl ?_
              obtain ⟨⟨r107, I107, L107⟩, e107, q⟩ := obs q
              dsimp only at q
              refine w_cvirt (o := 331) (as := [.int 40]) (st := []) (Ev.cm _) rfl rfl rfl (Nat.le_of_ble_eq_true rfl) (Nat.le_of_ble_eq_true rfl) rfl (Nat.le_of_ble_eq_true rfl) (eo_M_opened (g := ?_) e107)
              show Wp _ _ _ _ _ _ _ 108 [(0, .ref 331), (1, .int r80)] [.int r107] (HS I107 L107 X)
              refine w_ireturn (Ev.cm _) rfl trivial rf0 ?_
              cases q
              exact g
          · have c40 : ¬ (r80 < 0) := c40
            rw [if_neg c40] at q
            refine w_aload_n (Ev.cm _) rfl rfl ?_
            refine w_aload_n (Ev.cm _) rfl rfl ?_
            refine w_getI (Ev.cm _) rfl (Nat.le_of_ble_eq_true rfl) rfl ?_
            refine w_iconst (Ev.cm _) rfl ?_
            refine w_icmp_ne (Ev.cm _) rfl (fun c48 => ?_) (fun c48 => ?_)
            · have c48 : ¬ (I80 331 9 = 1) := c48
              rw [if_neg c48] at q
              refine w_iconst (Ev.cm _) rfl ?_
              refine w_aload_n (Ev.cm _) rfl rfl ?_
              refine w_getI (Ev.cm _) rfl (Nat.le_of_ble_eq_true rfl) rfl ?_
              refine w_iconst (Ev.cm _) rfl ?_
              refine w_icmp_ne (Ev.cm _) rfl (fun c49 => ?_) (fun c49 => ?_)
              · have c49 : ¬ (I80 331 9 = 1) := c49
                rw [if_neg c49] at q
                refine w_iload_n (Ev.cm _) rfl rfl ?_
                obtain ⟨⟨r108, I108, L108⟩, e108, q⟩ := obs q
                dsimp only at q
                refine w_cvirt (o := 331) (as := [.int 1, .int r80]) (st := []) (Ev.cm _) rfl rfl rfl (Nat.le_of_ble_eq_true rfl) (Nat.le_of_ble_eq_true rfl) rfl (Nat.le_of_ble_eq_true rfl) (eo_M_emit (g := ?_) e108)
                show Wp _ _ _ _ _ _ _ 84 [(0, .ref 331), (1, .int r80)] [] (HS I108 L108 X)
                refine w_aload_n (Ev.cm _) rfl rfl ?_
                obtain ⟨⟨r109, I109, L109⟩, e109, q⟩ := obs q
                dsimp only at q
                refine w_cvirt (o := 331) (as := []) (st := []) (Ev.cm _) rfl rfl rfl (Nat.le_of_ble_eq_true rfl) (Nat.le_of_ble_eq_true rfl) rfl (Nat.le_of_ble_eq_true rfl) (eo_M_nextToken (g := ?_) e109)
                show Wp _ _ _ _ _ _ _ 88 [(0, .ref 331), (1, .int r80)] [] (HS I109 L109 X)
                refine w_aload_n (Ev.cm _) rfl rfl ?_
                obtain ⟨⟨r110, I110, L110⟩, e110, q⟩ := obs q
                dsimp only at q
                refine w_cvirt (o := 331) (as := []) (st := []) (Ev.cm _) rfl rfl rfl (Nat.le_of_ble_eq_true rfl) (Nat.le_of_ble_eq_true rfl) rfl (Nat.le_of_ble_eq_true rfl) (eo_M_endOne (g := ?_) e110)
                show Wp _ _ _ _ _ _ _ 92 [(0, .ref 331), (1, .int r80)] [.int r110] (HS I110 L110 X)
                refine w_ireturn (Ev.cm _) rfl trivial rf0 ?_
                cases q
                exact g
              · have c49 : I80 331 9 = 1 := c49
                rw [if_pos c49] at q
                refine w_aload_n (Ev.cm _) rfl rfl ?_
                refine w_getI (Ev.cm _) rfl (Nat.le_of_ble_eq_true rfl) rfl ?_
                refine w_goto (Ev.cm _) rfl ?_
                obtain ⟨⟨r111, I111, L111⟩, e111, q⟩ := obs q
                dsimp only at q
                refine w_cvirt (o := 331) (as := [.int 1, .int (I80 331 10)]) (st := []) (Ev.cm _) rfl rfl rfl (Nat.le_of_ble_eq_true rfl) (Nat.le_of_ble_eq_true rfl) rfl (Nat.le_of_ble_eq_true rfl) (eo_M_emit (g := ?_) e111)
                show Wp _ _ _ _ _ _ _ 84 [(0, .ref 331), (1, .int r80)] [] (HS I111 L111 X)
                refine w_aload_n (Ev.cm _) rfl rfl ?_
                obtain ⟨⟨r112, I112, L112⟩, e112, q⟩ := obs q
                dsimp only at q
                refine w_cvirt (o := 331) (as := []) (st := []) (Ev.cm _) rfl rfl rfl (Nat.le_of_ble_eq_true rfl) (Nat.le_of_ble_eq_true rfl) rfl (Nat.le_of_ble_eq_true rfl) (eo_M_nextToken (g := ?_) e112)
                show Wp _ _ _ _ _ _ _ 88 [(0, .ref 331), (1, .int r80)] [] (HS I112 L112 X)
                refine w_aload_n (Ev.cm _) rfl rfl ?_
                obtain ⟨⟨r113, I113, L113⟩, e113, q⟩ := obs q
                dsimp only at q
                refine w_cvirt (o := 331) (as := []) (st := []) (Ev.cm _) rfl rfl rfl (Nat.le_of_ble_eq_true rfl) (Nat.le_of_ble_eq_true rfl) rfl (Nat.le_of_ble_eq_true rfl) (eo_M_endOne (g := ?_) e113)
                show Wp _ _ _ _ _ _ _ 92 [(0, .ref 331), (1, .int r80)] [.int r113] (HS I113 L113 X)
                refine w_ireturn (Ev.cm _) rfl trivial rf0 ?_
                cases q
                exact g
            · have c48 : I80 331 9 = 1 := c48
              rw [if_pos c48] at q
              refine w_iconst (Ev.cm _) rfl ?_
              refine w_goto (Ev.cm _) rfl ?_
              refine w_aload_n (Ev.cm _) rfl rfl ?_
              refine w_getI (Ev.cm _) rfl (Nat.le_of_ble_eq_true rfl) rfl ?_
              refine w_iconst (Ev.cm _) rfl ?_
              refine w_icmp_ne (Ev.cm _) rfl (fun c50 => ?_) (fun c50 => ?_)
              · have c50 : ¬ (I80 331 9 = 1) := c50
                rw [if_neg c50] at q
                refine w_iload_n (Ev.cm _) rfl rfl ?_
                obtain ⟨⟨r114, I114, L114⟩, e114, q⟩ := obs q
                dsimp only at q
                refine w_cvirt (o := 331) (as := [.int 0, .int r80]) (st := []) (Ev.cm _) rfl rfl rfl (Nat.le_of_ble_eq_true rfl) (Nat.le_of_ble_eq_true rfl) rfl (Nat.le_of_ble_eq_true rfl) (eo_M_emit (g := ?_) e114)
                show Wp _ _ _ _ _ _ _ 84 [(0, .ref 331), (1, .int r80)] [] (HS I114 L114 X)
                refine w_aload_n (Ev.cm _) rfl rfl ?_
                obtain ⟨⟨r115, I115, L115⟩, e115, q⟩ := obs q
                dsimp only at q
                refine w_cvirt (o := 331) (as := []) (st := []) (Ev.cm _) rfl rfl rfl (Nat.le_of_ble_eq_true rfl) (Nat.le_of_ble_eq_true rfl) rfl (Nat.le_of_ble_eq_true rfl) (eo_M_nextToken (g := ?_) e115)
                show Wp _ _ _ _ _ _ _ 88 [(0, .ref 331), (1, .int r80)] [] (HS I115 L115 X)
                refine w_aload_n (Ev.cm _) rfl rfl ?_
                obtain ⟨⟨r116, I116, L116⟩, e116, q⟩ := obs q
                dsimp only at q
                refine w_cvirt (o := 331) (as := []) (st := []) (Ev.cm _) rfl rfl rfl (Nat.le_of_ble_eq_true rfl) (Nat.le_of_ble_eq_true rfl) rfl (Nat.le_of_ble_eq_true rfl) (eo_M_endOne (g := ?_) e116)
                show Wp _ _ _ _ _ _ _ 92 [(0, .ref 331), (1, .int r80)] [.int r116] (HS I116 L116 X)
                refine w_ireturn (Ev.cm _) rfl trivial rf0 ?_
                cases q
                exact g
              · have c50 : I80 331 9 = 1 := c50
                rw [if_pos c50] at q
                refine w_aload_n (Ev.cm _) rfl rfl ?_
                refine w_getI (Ev.cm _) rfl (Nat.le_of_ble_eq_true rfl) rfl ?_
                refine w_goto (Ev.cm _) rfl ?_
                obtain ⟨⟨r117, I117, L117⟩, e117, q⟩ := obs q
                dsimp only at q
                refine w_cvirt (o := 331) (as := [.int 0, .int (I80 331 10)]) (st := []) (Ev.cm _) rfl rfl rfl (Nat.le_of_ble_eq_true rfl) (Nat.le_of_ble_eq_true rfl) rfl (Nat.le_of_ble_eq_true rfl) (eo_M_emit (g := ?_) e117)
                show Wp _ _ _ _ _ _ _ 84 [(0, .ref 331), (1, .int r80)] [] (HS I117 L117 X)
                refine w_aload_n (Ev.cm _) rfl rfl ?_
                obtain ⟨⟨r118, I118, L118⟩, e118, q⟩ := obs q
                dsimp only at q
                refine w_cvirt (o := 331) (as := []) (st := []) (Ev.cm _) rfl rfl rfl (Nat.le_of_ble_eq_true rfl) (Nat.le_of_ble_eq_true rfl) rfl (Nat.le_of_ble_eq_true rfl) (eo_M_nextToken (g := ?_) e118)
                show Wp _ _ _ _ _ _ _ 88 [(0, .ref 331), (1, .int r80)] [] (HS I118 L118 X)
                refine w_aload_n (Ev.cm _) rfl rfl ?_
                obtain ⟨⟨r119, I119, L119⟩, e119, q⟩ := obs q
                dsimp only at q
                refine w_cvirt (o := 331) (as := []) (st := []) (Ev.cm _) rfl rfl rfl (Nat.le_of_ble_eq_true rfl) (Nat.le_of_ble_eq_true rfl) rfl (Nat.le_of_ble_eq_true rfl) (eo_M_endOne (g := ?_) e119)
                show Wp _ _ _ _ _ _ _ 92 [(0, .ref 331), (1, .int r80)] [.int r119] (HS I119 L119 X)
                refine w_ireturn (Ev.cm _) rfl trivial rf0 ?_
                cases q
                exact g
      · have c35 : ¬ (r80 ≤ 2) := c35
        rw [if_neg c35] at q
        refine w_aload_n (Ev.cm _) rfl rfl ?_
        refine w_getI (Ev.cm _) rfl (Nat.le_of_ble_eq_true rfl) rfl ?_
        refine w_if_eq (Ev.cm _) rfl (fun c51 => ?_) (fun c51 => ?_)
        · have c51 : I80 331 14 = 0 := c51
          rw [if_pos c51] at q
          refine w_aload_n (Ev.cm _) rfl rfl ?_
          refine w_getI (Ev.cm _) rfl (Nat.le_of_ble_eq_true rfl) rfl ?_
          refine w_iconst (Ev.cm _) rfl ?_
          refine w_icmp_eq (Ev.cm _) rfl (fun c52 => ?_) (fun c52 => ?_)
          · have c52 : I80 331 9 = 1 := c52
            rw [if_pos c52] at q
            refine w_aload_n (Ev.cm _) rfl rfl ?_
            refine w_aload_n (Ev.cm _) rfl rfl ?_
            refine w_getI (Ev.cm _) rfl (Nat.le_of_ble_eq_true rfl) rfl ?_
            refine w_iconst (Ev.cm _) rfl ?_
            refine w_icmp_ne (Ev.cm _) rfl (fun c53 => ?_) (fun c53 => ?_)
            · have c53 : ¬ (I80 331 9 = 1) := c53
              rw [if_neg c53] at q
              refine w_iconst (Ev.cm _) rfl ?_
              refine w_aload_n (Ev.cm _) rfl rfl ?_
              refine w_getI (Ev.cm _) rfl (Nat.le_of_ble_eq_true rfl) rfl ?_
              refine w_iconst (Ev.cm _) rfl ?_
              refine w_icmp_ne (Ev.cm _) rfl (fun c54 => ?_) (fun c54 => ?_)
              · have c54 : ¬ (I80 331 9 = 1) := c54
                rw [if_neg c54] at q
                refine w_iload_n (Ev.cm _) rfl rfl ?_
                obtain ⟨⟨r120, I120, L120⟩, e120, q⟩ := obs q
                dsimp only at q
                refine w_cvirt (o := 331) (as := [.int 1, .int r80]) (st := []) (Ev.cm _) rfl rfl rfl (Nat.le_of_ble_eq_true rfl) (Nat.le_of_ble_eq_true rfl) rfl (Nat.le_of_ble_eq_true rfl) (eo_M_emit (g := ?_) e120)
                show Wp _ _ _ _ _ _ _ 84 [(0, .ref 331), (1, .int r80)] [] (HS I120 L120 X)
                refine w_aload_n (Ev.cm _) rfl rfl ?_
                obtain ⟨⟨r121, I121, L121⟩, e121, q⟩ := obs q
                dsimp only at q
                refine w_cvirt (o := 331) (as := []) (st := []) (Ev.cm _) rfl rfl rfl (Nat.le_of_ble_eq_true rfl) (Nat.le_of_ble_eq_true rfl) rfl (Nat.le_of_ble_eq_true rfl) (eo_M_nextToken (g := ?_) e121)
                show Wp _ _ _ _ _ _ _ 88 [(0, .ref 331), (1, .int r80)] [] (HS I121 L121 X)
                refine w_aload_n (Ev.cm _) rfl rfl ?_
                obtain ⟨⟨r122, I122, L122⟩, e122, q⟩ := obs q
                dsimp only at q
                refine w_cvirt (o := 331) (as := []) (st := []) (Ev.cm _) rfl rfl rfl (Nat.le_of_ble_eq_true rfl) (Nat.le_of_ble_eq_true rfl) rfl (Nat.le_of_ble_eq_true rfl) (eo_M_endOne (g := ?_) e122)
                show Wp _ _ _ _ _ _ _ 92 [(0, .ref 331), (1, .int r80)] [.int r122] (HS I122 L122 X)
                refine w_ireturn (Ev.cm _) rfl trivial rf0 ?_
                cases q
                exact g
              · have c54 : I80 331 9 = 1 := c54
                rw [if_pos c54] at q
                refine w_aload_n (Ev.cm _) rfl rfl ?_
                refine w_getI (Ev.cm _) rfl (Nat.le_of_ble_eq_true rfl) rfl ?_
                refine w_goto (Ev.cm _) rfl ?_
                obtain ⟨⟨r123, I123, L123⟩, e123, q⟩ := obs q
                dsimp only at q
                refine w_cvirt (o := 331) (as := [.int 1, .int (I80 331 10)]) (st := []) (Ev.cm _) rfl rfl rfl (Nat.le_of_ble_eq_true rfl) (Nat.le_of_ble_eq_true rfl) rfl (Nat.le_of_ble_eq_true rfl) (eo_M_emit (g := ?_) e123)
                show Wp _ _ _ _ _ _ _ 84 [(0, .ref 331), (1, .int r80)] [] (HS I123 L123 X)
                refine w_aload_n (Ev.cm _) rfl rfl ?_
                obtain ⟨⟨r124, I124, L124⟩, e124, q⟩ := obs q
                dsimp only at q
                refine w_cvirt (o := 331) (as := []) (st := []) (Ev.cm _) rfl rfl rfl (Nat.le_of_ble_eq_true rfl) (Nat.le_of_ble_eq_true rfl) rfl (Nat.le_of_ble_eq_true rfl) (eo_M_nextToken (g := ?_) e124)
                show Wp _ _ _ _ _ _ _ 88 [(0, .ref 331), (1, .int r80)] [] (HS I124 L124 X)
                refine w_aload_n (Ev.cm _) rfl rfl ?_
                obtain ⟨⟨r125, I125, L125⟩, e125, q⟩ := obs q
                dsimp only at q
                refine w_cvirt (o := 331) (as := []) (st := []) (Ev.cm _) rfl rfl rfl (Nat.le_of_ble_eq_true rfl) (Nat.le_of_ble_eq_true rfl) rfl (Nat.le_of_ble_eq_true rfl) (eo_M_endOne (g := ?_) e125)
                show Wp _ _ _ _ _ _ _ 92 [(0, .ref 331), (1, .int r80)] [.int r125] (HS I125 L125 X)
                refine w_ireturn (Ev.cm _) rfl trivial rf0 ?_
                cases q
                exact g
            · have c53 : I80 331 9 = 1 := c53
              rw [if_pos c53] at q
              refine w_iconst (Ev.cm _) rfl ?_
              refine w_goto (Ev.cm _) rfl ?_
              refine w_aload_n (Ev.cm _) rfl rfl ?_
              refine w_getI (Ev.cm _) rfl (Nat.le_of_ble_eq_true rfl) rfl ?_
              refine w_iconst (Ev.cm _) rfl ?_
              refine w_icmp_ne (Ev.cm _) rfl (fun c55 => ?_) (fun c55 => ?_)
              · have c55 : ¬ (I80 331 9 = 1) := c55
                rw [if_neg c55] at q
                refine w_iload_n (Ev.cm _) rfl rfl ?_
                obtain ⟨⟨r126, I126, L126⟩, e126, q⟩ := obs q
                dsimp only at q
                refine w_cvirt (o := 331) (as := [.int 0, .int r80]) (st := []) (Ev.cm _) rfl rfl rfl (Nat.le_of_ble_eq_true rfl) (Nat.le_of_ble_eq_true rfl) rfl (Nat.le_of_ble_eq_true rfl) (eo_M_emit (g := ?_) e126)
                show Wp _ _ _ _ _ _ _ 84 [(0, .ref 331), (1, .int r80)] [] (HS I126 L126 X)
                refine w_aload_n (Ev.cm _) rfl rfl ?_
                obtain ⟨⟨r127, I127, L127⟩, e127, q⟩ := obs q
                dsimp only at q
                refine w_cvirt (o := 331) (as := []) (st := []) (Ev.cm _) rfl rfl rfl (Nat.le_of_ble_eq_true rfl) (Nat.le_of_ble_eq_true rfl) rfl (Nat.le_of_ble_eq_true rfl) (eo_M_nextToken (g := ?_) e127)
                show Wp _ _ _ _ _ _ _ 88 [(0, .ref 331), (1, .int r80)] [] (HS I127 L127 X)
                refine w_aload_n (Ev.cm _) rfl rfl ?_
                obtain ⟨⟨r128, I128, L128⟩, e128, q⟩ := obs q
                dsimp only at q
                refine w_cvirt (o := 331) (as := []) (st := []) (Ev.cm _) rfl rfl rfl (Nat.le_of_ble_eq_true rfl) (Nat.le_of_ble_eq_true rfl) rfl (Nat.le_of_ble_eq_true rfl) (eo_M_endOne (g := ?_) e128)
                show Wp _ _ _ _ _ _ _ 92 [(0, .ref 331), (1, .int r80)] [.int r128] (HS I128 L128 X)
                refine w_ireturn (Ev.cm _) rfl trivial rf0 ?_
                cases q
                exact g
              · have c55 : I80 331 9 = 1 := c55
                rw [if_pos c55] at q
                refine w_aload_n (Ev.cm _) rfl rfl ?_
                refine w_getI (Ev.cm _) rfl (Nat.le_of_ble_eq_true rfl) rfl ?_
                refine w_goto (Ev.cm _) rfl ?_
                obtain ⟨⟨r129, I129, L129⟩, e129, q⟩ := obs q
                dsimp only at q
                refine w_cvirt (o := 331) (as := [.int 0, .int (I80 331 10)]) (st := []) (Ev.cm _) rfl rfl rfl (Nat.le_of_ble_eq_true rfl) (Nat.le_of_ble_eq_true rfl) rfl (Nat.le_of_ble_eq_true rfl) (eo_M_emit (g := ?_) e129)
                show Wp _ _ _ _ _ _ _ 84 [(0, .ref 331), (1, .int r80)] [] (HS I129 L129 X)
                refine w_aload_n (Ev.cm _) rfl rfl ?_
                obtain ⟨⟨r130, I130, L130⟩, e130, q⟩ := obs q
                dsimp only at q
                refine w_cvirt (o := 331) (as := []) (st := []) (Ev.cm _) rfl rfl rfl (Nat.le_of_ble_eq_true rfl) (Nat.le_of_ble_eq_true rfl) rfl (Nat.le_of_ble_eq_true rfl) (eo_M_nextToken (g := ?_) e130)
                show Wp _ _ _ _ _ _ _ 88 [(0, .ref 331), (1, .int r80)] [] (HS I130 L130 X)
                refine w_aload_n (Ev.cm _) rfl rfl ?_
                obtain ⟨⟨r131, I131, L131⟩, e131, q⟩ := obs q
                dsimp only at q
                refine w_cvirt (o := 331) (as := []) (st := []) (Ev.cm _) rfl rfl rfl (Nat.le_of_ble_eq_true rfl) (Nat.le_of_ble_eq_true rfl) rfl (Nat.le_of_ble_eq_true rfl) (eo_M_endOne (g := ?_) e131)
                show Wp _ _ _ _ _ _ _ 92 [(0, .ref 331), (1, .int r80)] [.int r131] (HS I131 L131 X)
                refine w_ireturn (Ev.cm _) rfl trivial rf0 ?_
                cases q
                exact g
          · have c52 : ¬ (I80 331 9 = 1) := c52
            rw [if_neg c52] at q
            refine w_iload_n (Ev.cm _) rfl rfl ?_
            refine w_if_lt (Ev.cm _) rfl (fun c56 => ?_) (fun c56 => ?_)
            · have c56 : r80 < 0 := c56
              rw [if_pos c56] at q
              refine w_aload_n (Ev.cm _) rfl rfl ?_
              refine w_getI (Ev.cm _) rfl (Nat.le_of_ble_eq_true rfl) rfl ?_
              refine w_bipush (Ev.cm _) rfl ?_
              refine w_icmp_ne (Ev.cm _) rfl (fun c57 => ?_) (fun c57 => ?_)
              · have c57 : ¬ (I80 331 9 = 40) := c57
                rw [if_neg c57] at q
                refine w_aload_n (Ev.cm _) rfl rfl ?_
                refine w_getI (Ev.cm _) rfl (Nat.le_of_ble_eq_true rfl) rfl ?_
                refine w_bipush (Ev.cm _) rfl ?_
                refine w_icmp_ne (Ev.cm _) rfl (fun c58 => ?_) (fun c58 => ?_)
                · have c58 : ¬ (I80 331 9 = 45) := c58
                  rw [if_neg c58] at q
                  refine w_aload_n (Ev.cm _) rfl rfl ?_
                  refine w_bipush (Ev.cm _) rfl ?_
                  refine w_bipush (Ev.cm _) rfl ?_
                  refine w_bipush (Ev.cm _) rfl ?_
                  refine w_bipush (Ev.cm _) rfl ?_
                  obtain ⟨⟨r132, I132, L132⟩, e132, q⟩ := obs q
                  dsimp only at q
                  refine w_cstat (as := [.int 110, .int 101, .int 97, .int 114]) (st := [.ref 331]) (Ev.cm _) rfl rfl rfl (Nat.le_of_ble_eq_true rfl) (Nat.le_of_ble_eq_true rfl) (eo_M_w4 (g := ?_) e132)
                  show Wp _ _ _ _ _ _ _ 136 [(0, .ref 331), (1, .int r80)] [.long r132, .ref 331] (HS I132 L132 X)
                  obtain ⟨⟨r133, I133, L133⟩, e133, q⟩ := obs q
                  dsimp only at q
                  refine w_cvirt (o := 331) (as := [.long r132]) (st := []) (Ev.cm _) rfl rfl rfl (Nat.le_of_ble_eq_true rfl) (Nat.le_of_ble_eq_true rfl) rfl (Nat.le_of_ble_eq_true rfl) (eo_M_isWord (g := ?_) e133)
                  show Wp _ _ _ _ _ _ _ 139 [(0, .ref 331), (1, .int r80)] [.int r133] (HS I133 L133 X)
                  refine w_if_eq (Ev.cm _) rfl (fun c59 => ?_) (fun c59 => ?_)
                  · have c59 : r133 = 0 := c59
                    rw [if_pos c59] at q
                    refine w_aload_n (Ev.cm _) rfl rfl ?_
                    refine w_bipush (Ev.cm _) rfl ?_
                    refine w_bipush (Ev.cm _) rfl ?_
                    refine w_bipush (Ev.cm _) rfl ?_
                    refine w_bipush (Ev.cm _) rfl ?_
                    obtain ⟨⟨r134, I134, L134⟩, e134, q⟩ := obs q
                    dsimp only at q
                    refine w_cstat (as := [.int 99, .int 117, .int 112, .int 115]) (st := [.ref 331]) (Ev.cm _) rfl rfl rfl (Nat.le_of_ble_eq_true rfl) (Nat.le_of_ble_eq_true rfl) (eo_M_w4 (g := ?_) e134)
                    show Wp _ _ _ _ _ _ _ 161 [(0, .ref 331), (1, .int r80)] [.long r134, .ref 331] (HS I134 L134 X)
                    obtain ⟨⟨r135, I135, L135⟩, e135, q⟩ := obs q
                    dsimp only at q
                    refine w_cvirt (o := 331) (as := [.long r134]) (st := []) (Ev.cm _) rfl rfl rfl (Nat.le_of_ble_eq_true rfl) (Nat.le_of_ble_eq_true rfl) rfl (Nat.le_of_ble_eq_true rfl) (eo_M_isWord (g := ?_) e135)
                    show Wp _ _ _ _ _ _ _ 164 [(0, .ref 331), (1, .int r80)] [.int r135] (HS I135 L135 X)
                    refine w_if_eq (Ev.cm _) rfl (fun c60 => ?_) (fun c60 => ?_)
                    · have c60 : r135 = 0 := c60
                      rw [if_pos c60] at q
                      refine w_aload_n (Ev.cm _) rfl rfl ?_
                      refine w_bipush (Ev.cm _) rfl ?_
                      refine w_bipush (Ev.cm _) rfl ?_
                      obtain ⟨⟨r136, I136, L136⟩, e136, q⟩ := obs q
                      dsimp only at q
                      refine w_cstat (as := [.int 105, .int 102]) (st := [.ref 331]) (Ev.cm _) rfl rfl rfl (Nat.le_of_ble_eq_true rfl) (Nat.le_of_ble_eq_true rfl) (eo_M_w2 (g := ?_) e136)
                      show Wp _ _ _ _ _ _ _ 181 [(0, .ref 331), (1, .int r80)] [.long r136, .ref 331] (HS I136 L136 X)
                      obtain ⟨⟨r137, I137, L137⟩, e137, q⟩ := obs q
                      dsimp only at q
                      refine w_cvirt (o := 331) (as := [.long r136]) (st := []) (Ev.cm _) rfl rfl rfl (Nat.le_of_ble_eq_true rfl) (Nat.le_of_ble_eq_true rfl) rfl (Nat.le_of_ble_eq_true rfl) (eo_M_isWord (g := ?_) e137)
                      show Wp _ _ _ _ _ _ _ 184 [(0, .ref 331), (1, .int r80)] [.int r137] (HS I137 L137 X)
                      refine w_if_eq (Ev.cm _) rfl (fun c61 => ?_) (fun c61 => ?_)
                      · have c61 : r137 = 0 := c61
                        rw [if_pos c61] at q
                        refine w_aload_n (Ev.cm _) rfl rfl ?_
                        refine w_bipush (Ev.cm _) rfl ?_
                        refine w_bipush (Ev.cm _) rfl ?_
                        refine w_bipush (Ev.cm _) rfl ?_
                        obtain ⟨⟨r138, I138, L138⟩, e138, q⟩ := obs q
                        dsimp only at q
                        refine w_cstat (as := [.int 110, .int 111, .int 116]) (st := [.ref 331]) (Ev.cm _) rfl rfl rfl (Nat.le_of_ble_eq_true rfl) (Nat.le_of_ble_eq_true rfl) (eo_M_w3 (g := ?_) e138)
                        show Wp _ _ _ _ _ _ _ 204 [(0, .ref 331), (1, .int r80)] [.long r138, .ref 331] (HS I138 L138 X)
                        obtain ⟨⟨r139, I139, L139⟩, e139, q⟩ := obs q
                        dsimp only at q
                        refine w_cvirt (o := 331) (as := [.long r138]) (st := []) (Ev.cm _) rfl rfl rfl (Nat.le_of_ble_eq_true rfl) (Nat.le_of_ble_eq_true rfl) rfl (Nat.le_of_ble_eq_true rfl) (eo_M_isWord (g := ?_) e139)
                        show Wp _ _ _ _ _ _ _ 207 [(0, .ref 331), (1, .int r80)] [.int r139] (HS I139 L139 X)
                        refine w_if_eq (Ev.cm _) rfl (fun c62 => ?_) (fun c62 => ?_)
                        · have c62 : r139 = 0 := c62
                          rw [if_pos c62] at q
                          refine w_iconst (Ev.cm _) rfl ?_
                          refine w_ireturn (Ev.cm _) rfl trivial rf0 ?_
                          cases q
                          exact g
                        · have c62 : ¬ (r139 = 0) := c62
                          rw [if_neg c62] at q
                          refine w_aload_n (Ev.cm _) rfl rfl ?_
                          obtain ⟨⟨r140, I140, L140⟩, e140, q⟩ := obs q
                          dsimp only at q
                          refine w_cvirt (o := 331) (as := []) (st := []) (Ev.cm _) rfl rfl rfl (Nat.le_of_ble_eq_true rfl) (Nat.le_of_ble_eq_true rfl) rfl (Nat.le_of_ble_eq_true rfl) (eo_M_isAskAhead (g := ?_) e140)
                          show Wp _ _ _ _ _ _ _ 214 [(0, .ref 331), (1, .int r80)] [.int r140] (HS I140 L140 X)
                          refine w_if_eq (Ev.cm _) rfl (fun c63 => ?_) (fun c63 => ?_)
                          · have c63 : r140 = 0 := c63
                            rw [if_pos c63] at q
                            refine w_iconst (Ev.cm _) rfl ?_
                            refine w_ireturn (Ev.cm _) rfl trivial rf0 ?_
                            cases q
                            exact g
                          · have c63 : ¬ (r140 = 0) := c63
                            rw [if_neg c63] at q
                            refine w_aload_n (Ev.cm _) rfl rfl ?_
                            refine w_bipush (Ev.cm _) rfl ?_
                            obtain ⟨⟨r141, I141, L141⟩, e141, q⟩ := obs q
                            dsimp only at q
                            refine w_cvirt (o := 331) (as := [.int 20]) (st := []) (Ev.cm _) rfl rfl rfl (Nat.le_of_ble_eq_true rfl) (Nat.le_of_ble_eq_true rfl) rfl (Nat.le_of_ble_eq_true rfl) (eo_M_opened (g := ?_) e141)
                            show Wp _ _ _ _ _ _ _ 223 [(0, .ref 331), (1, .int r80)] [.int r141] (HS I141 L141 X)
                            refine w_goto (Ev.cm _) rfl ?_
                            refine w_ireturn (Ev.cm _) rfl trivial rf0 ?_
                            cases q
                            exact g
                      · have c61 : ¬ (r137 = 0) := c61
                        rw [if_neg c61] at q
                        refine w_aload_n (Ev.cm _) rfl rfl ?_
                        refine w_bipush (Ev.cm _) rfl ?_
                        obtain ⟨⟨r142, I142, L142⟩, e142, q⟩ := obs q
                        dsimp only at q
                        refine w_cvirt (o := 331) (as := [.int 42]) (st := []) (Ev.cm _) rfl rfl rfl (Nat.le_of_ble_eq_true rfl) (Nat.le_of_ble_eq_true rfl) rfl (Nat.le_of_ble_eq_true rfl) (eo_M_opened (g := ?_) e142)
                        show Wp _ _ _ _ _ _ _ 193 [(0, .ref 331), (1, .int r80)] [.int r142] (HS I142 L142 X)
                        refine w_ireturn (Ev.cm _) rfl trivial rf0 ?_
                        cases q
                        exact g
                    · have c60 : ¬ (r135 = 0) := c60
                      rw [if_neg c60] at q
                      refine w_aload_n (Ev.cm _) rfl rfl ?_
                      refine w_iconst (Ev.cm _) rfl ?_
                      obtain ⟨⟨r143, I143, L143⟩, e143, q⟩ := obs q
                      dsimp only at q
                      refine w_cvirt (o := 331) (as := [.int 2]) (st := []) (Ev.cm _) rfl rfl rfl (Nat.le_of_ble_eq_true rfl) (Nat.le_of_ble_eq_true rfl) rfl (Nat.le_of_ble_eq_true rfl) (eo_M_opened (g := ?_) e143)
                      show Wp _ _ _ _ _ _ _ 172 [(0, .ref 331), (1, .int r80)] [.int r143] (HS I143 L143 X)
                      refine w_ireturn (Ev.cm _) rfl trivial rf0 ?_
                      cases q
                      exact g
                  · have c59 : ¬ (r133 = 0) := c59
                    rw [if_neg c59] at q
                    refine w_aload_n (Ev.cm _) rfl rfl ?_
                    refine w_bipush (Ev.cm _) rfl ?_
                    obtain ⟨⟨r144, I144, L144⟩, e144, q⟩ := obs q
                    dsimp only at q
                    refine w_cvirt (o := 331) (as := [.int 41]) (st := []) (Ev.cm _) rfl rfl rfl (Nat.le_of_ble_eq_true rfl) (Nat.le_of_ble_eq_true rfl) rfl (Nat.le_of_ble_eq_true rfl) (eo_M_opened (g := ?_) e144)
                    show Wp _ _ _ _ _ _ _ 148 [(0, .ref 331), (1, .int r80)] [.int r144] (HS I144 L144 X)
                    refine w_ireturn (Ev.cm _) rfl trivial rf0 ?_
                    cases q
                    exact g
                · have c58 : I80 331 9 = 45 := c58
                  rw [if_pos c58] at q
                  refine w_aload_n (Ev.cm _) rfl rfl ?_
                  refine w_iconst (Ev.cm _) rfl ?_
                  obtain ⟨⟨r145, I145, L145⟩, e145, q⟩ := obs q
                  dsimp only at q
                  refine w_cvirt (o := 331) (as := [.int 5]) (st := []) (Ev.cm _) rfl rfl rfl (Nat.le_of_ble_eq_true rfl) (Nat.le_of_ble_eq_true rfl) rfl (Nat.le_of_ble_eq_true rfl) (eo_M_opened (g := ?_) e145)
                  show Wp _ _ _ _ _ _ _ 123 [(0, .ref 331), (1, .int r80)] [.int r145] (HS I145 L145 X)
                  refine w_ireturn (Ev.cm _) rfl trivial rf0 ?_
                  cases q
                  exact g
              · have c57 : I80 331 9 = 40 := c57
                rw [if_pos c57] at q
                refine w_aload_n (Ev.cm _) rfl rfl ?_
                refine w_bipush (Ev.cm _) rfl ?_
                obtain ⟨⟨r146, I146, L146⟩, e146, q⟩ := obs q
                dsimp only at q
                refine w_cvirt (o := 331) (as := [.int 40]) (st := []) (Ev.cm _) rfl rfl rfl (Nat.le_of_ble_eq_true rfl) (Nat.le_of_ble_eq_true rfl) rfl (Nat.le_of_ble_eq_true rfl) (eo_M_opened (g := ?_) e146)
                show Wp _ _ _ _ _ _ _ 108 [(0, .ref 331), (1, .int r80)] [.int r146] (HS I146 L146 X)
                refine w_ireturn (Ev.cm _) rfl trivial rf0 ?_
                cases q
                exact g
            · have c56 : ¬ (r80 < 0) := c56
              rw [if_neg c56] at q
              refine w_aload_n (Ev.cm _) rfl rfl ?_
              refine w_aload_n (Ev.cm _) rfl rfl ?_
              refine w_getI (Ev.cm _) rfl (Nat.le_of_ble_eq_true rfl) rfl ?_
              refine w_iconst (Ev.cm _) rfl ?_
              refine w_icmp_ne (Ev.cm _) rfl (fun c64 => ?_) (fun c64 => ?_)
              · have c64 : ¬ (I80 331 9 = 1) := c64
                rw [if_neg c64] at q
                refine w_iconst (Ev.cm _) rfl ?_
                refine w_aload_n (Ev.cm _) rfl rfl ?_
                refine w_getI (Ev.cm _) rfl (Nat.le_of_ble_eq_true rfl) rfl ?_
                refine w_iconst (Ev.cm _) rfl ?_
                refine w_icmp_ne (Ev.cm _) rfl (fun c65 => ?_) (fun c65 => ?_)
                · have c65 : ¬ (I80 331 9 = 1) := c65
                  rw [if_neg c65] at q
                  refine w_iload_n (Ev.cm _) rfl rfl ?_
                  obtain ⟨⟨r147, I147, L147⟩, e147, q⟩ := obs q
                  dsimp only at q
                  refine w_cvirt (o := 331) (as := [.int 1, .int r80]) (st := []) (Ev.cm _) rfl rfl rfl (Nat.le_of_ble_eq_true rfl) (Nat.le_of_ble_eq_true rfl) rfl (Nat.le_of_ble_eq_true rfl) (eo_M_emit (g := ?_) e147)
                  show Wp _ _ _ _ _ _ _ 84 [(0, .ref 331), (1, .int r80)] [] (HS I147 L147 X)
                  refine w_aload_n (Ev.cm _) rfl rfl ?_
                  obtain ⟨⟨r148, I148, L148⟩, e148, q⟩ := obs q
                  dsimp only at q
                  refine w_cvirt (o := 331) (as := []) (st := []) (Ev.cm _) rfl rfl rfl (Nat.le_of_ble_eq_true rfl) (Nat.le_of_ble_eq_true rfl) rfl (Nat.le_of_ble_eq_true rfl) (eo_M_nextToken (g := ?_) e148)
                  show Wp _ _ _ _ _ _ _ 88 [(0, .ref 331), (1, .int r80)] [] (HS I148 L148 X)
                  refine w_aload_n (Ev.cm _) rfl rfl ?_
                  obtain ⟨⟨r149, I149, L149⟩, e149, q⟩ := obs q
                  dsimp only at q
                  refine w_cvirt (o := 331) (as := []) (st := []) (Ev.cm _) rfl rfl rfl (Nat.le_of_ble_eq_true rfl) (Nat.le_of_ble_eq_true rfl) rfl (Nat.le_of_ble_eq_true rfl) (eo_M_endOne (g := ?_) e149)
                  show Wp _ _ _ _ _ _ _ 92 [(0, .ref 331), (1, .int r80)] [.int r149] (HS I149 L149 X)
                  refine w_ireturn (Ev.cm _) rfl trivial rf0 ?_
                  cases q
                  exact g
                · have c65 : I80 331 9 = 1 := c65
                  rw [if_pos c65] at q
                  refine w_aload_n (Ev.cm _) rfl rfl ?_
                  refine w_getI (Ev.cm _) rfl (Nat.le_of_ble_eq_true rfl) rfl ?_
                  refine w_goto (Ev.cm _) rfl ?_
                  obtain ⟨⟨r150, I150, L150⟩, e150, q⟩ := obs q
                  dsimp only at q
                  refine w_cvirt (o := 331) (as := [.int 1, .int (I80 331 10)]) (st := []) (Ev.cm _) rfl rfl rfl (Nat.le_of_ble_eq_true rfl) (Nat.le_of_ble_eq_true rfl) rfl (Nat.le_of_ble_eq_true rfl) (eo_M_emit (g := ?_) e150)
                  show Wp _ _ _ _ _ _ _ 84 [(0, .ref 331), (1, .int r80)] [] (HS I150 L150 X)
                  refine w_aload_n (Ev.cm _) rfl rfl ?_
                  obtain ⟨⟨r151, I151, L151⟩, e151, q⟩ := obs q
                  dsimp only at q
                  refine w_cvirt (o := 331) (as := []) (st := []) (Ev.cm _) rfl rfl rfl (Nat.le_of_ble_eq_true rfl) (Nat.le_of_ble_eq_true rfl) rfl (Nat.le_of_ble_eq_true rfl) (eo_M_nextToken (g := ?_) e151)
                  show Wp _ _ _ _ _ _ _ 88 [(0, .ref 331), (1, .int r80)] [] (HS I151 L151 X)
                  refine w_aload_n (Ev.cm _) rfl rfl ?_
                  obtain ⟨⟨r152, I152, L152⟩, e152, q⟩ := obs q
                  dsimp only at q
                  refine w_cvirt (o := 331) (as := []) (st := []) (Ev.cm _) rfl rfl rfl (Nat.le_of_ble_eq_true rfl) (Nat.le_of_ble_eq_true rfl) rfl (Nat.le_of_ble_eq_true rfl) (eo_M_endOne (g := ?_) e152)
                  show Wp _ _ _ _ _ _ _ 92 [(0, .ref 331), (1, .int r80)] [.int r152] (HS I152 L152 X)
                  refine w_ireturn (Ev.cm _) rfl trivial rf0 ?_
                  cases q
                  exact g
              · have c64 : I80 331 9 = 1 := c64
                rw [if_pos c64] at q
                refine w_iconst (Ev.cm _) rfl ?_
                refine w_goto (Ev.cm _) rfl ?_
                refine w_aload_n (Ev.cm _) rfl rfl ?_
                refine w_getI (Ev.cm _) rfl (Nat.le_of_ble_eq_true rfl) rfl ?_
                refine w_iconst (Ev.cm _) rfl ?_
                refine w_icmp_ne (Ev.cm _) rfl (fun c66 => ?_) (fun c66 => ?_)
                · have c66 : ¬ (I80 331 9 = 1) := c66
                  rw [if_neg c66] at q
                  refine w_iload_n (Ev.cm _) rfl rfl ?_
                  obtain ⟨⟨r153, I153, L153⟩, e153, q⟩ := obs q
                  dsimp only at q
                  refine w_cvirt (o := 331) (as := [.int 0, .int r80]) (st := []) (Ev.cm _) rfl rfl rfl (Nat.le_of_ble_eq_true rfl) (Nat.le_of_ble_eq_true rfl) rfl (Nat.le_of_ble_eq_true rfl) (eo_M_emit (g := ?_) e153)
                  show Wp _ _ _ _ _ _ _ 84 [(0, .ref 331), (1, .int r80)] [] (HS I153 L153 X)
                  refine w_aload_n (Ev.cm _) rfl rfl ?_
                  obtain ⟨⟨r154, I154, L154⟩, e154, q⟩ := obs q
                  dsimp only at q
                  refine w_cvirt (o := 331) (as := []) (st := []) (Ev.cm _) rfl rfl rfl (Nat.le_of_ble_eq_true rfl) (Nat.le_of_ble_eq_true rfl) rfl (Nat.le_of_ble_eq_true rfl) (eo_M_nextToken (g := ?_) e154)
                  show Wp _ _ _ _ _ _ _ 88 [(0, .ref 331), (1, .int r80)] [] (HS I154 L154 X)
                  refine w_aload_n (Ev.cm _) rfl rfl ?_
                  obtain ⟨⟨r155, I155, L155⟩, e155, q⟩ := obs q
                  dsimp only at q
                  refine w_cvirt (o := 331) (as := []) (st := []) (Ev.cm _) rfl rfl rfl (Nat.le_of_ble_eq_true rfl) (Nat.le_of_ble_eq_true rfl) rfl (Nat.le_of_ble_eq_true rfl) (eo_M_endOne (g := ?_) e155)
                  show Wp _ _ _ _ _ _ _ 92 [(0, .ref 331), (1, .int r80)] [.int r155] (HS I155 L155 X)
                  refine w_ireturn (Ev.cm _) rfl trivial rf0 ?_
                  cases q
                  exact g
                · have c66 : I80 331 9 = 1 := c66
                  rw [if_pos c66] at q
                  refine w_aload_n (Ev.cm _) rfl rfl ?_
                  refine w_getI (Ev.cm _) rfl (Nat.le_of_ble_eq_true rfl) rfl ?_
                  refine w_goto (Ev.cm _) rfl ?_
                  obtain ⟨⟨r156, I156, L156⟩, e156, q⟩ := obs q
                  dsimp only at q
                  refine w_cvirt (o := 331) (as := [.int 0, .int (I80 331 10)]) (st := []) (Ev.cm _) rfl rfl rfl (Nat.le_of_ble_eq_true rfl) (Nat.le_of_ble_eq_true rfl) rfl (Nat.le_of_ble_eq_true rfl) (eo_M_emit (g := ?_) e156)
                  show Wp _ _ _ _ _ _ _ 84 [(0, .ref 331), (1, .int r80)] [] (HS I156 L156 X)
                  refine w_aload_n (Ev.cm _) rfl rfl ?_
                  obtain ⟨⟨r157, I157, L157⟩, e157, q⟩ := obs q
                  dsimp only at q
                  refine w_cvirt (o := 331) (as := []) (st := []) (Ev.cm _) rfl rfl rfl (Nat.le_of_ble_eq_true rfl) (Nat.le_of_ble_eq_true rfl) rfl (Nat.le_of_ble_eq_true rfl) (eo_M_nextToken (g := ?_) e157)
                  show Wp _ _ _ _ _ _ _ 88 [(0, .ref 331), (1, .int r80)] [] (HS I157 L157 X)
                  refine w_aload_n (Ev.cm _) rfl rfl ?_
                  obtain ⟨⟨r158, I158, L158⟩, e158, q⟩ := obs q
                  dsimp only at q
                  refine w_cvirt (o := 331) (as := []) (st := []) (Ev.cm _) rfl rfl rfl (Nat.le_of_ble_eq_true rfl) (Nat.le_of_ble_eq_true rfl) rfl (Nat.le_of_ble_eq_true rfl) (eo_M_endOne (g := ?_) e158)
                  show Wp _ _ _ _ _ _ _ 92 [(0, .ref 331), (1, .int r80)] [.int r158] (HS I158 L158 X)
                  refine w_ireturn (Ev.cm _) rfl trivial rf0 ?_
                  cases q
                  exact g
        · have c51 : ¬ (I80 331 14 = 0) := c51
          rw [if_neg c51] at q
          refine w_iconst (Ev.cm _) rfl ?_
          refine w_ireturn (Ev.cm _) rfl trivial rf0 ?_
          cases q
          exact g
    · have c34 : ¬ (I 331 10 ≤ 9999) := c34
      rw [if_neg c34] at q
      refine w_iconst (Ev.cm _) rfl ?_
      refine w_ireturn (Ev.cm _) rfl trivial rf0 ?_
      cases q
      exact g
def LO_M_summed_15 (fu : Nat) : Nat → (Nat → Nat → Int32) → (Nat → Nat → Int64) → Option (Int32 × (Nat → Nat → Int32) × (Nat → Nat → Int64))
  | 0, _, _ => none
  | n + 1, I, L => if I 331 18 = 0 then ((FO_M_beginOne fu  I L).bind (fun u1 => let r1 := u1.1; let I1 := u1.2.1; let L1 := u1.2.2; if r1 ≤ 0 then (if r1 = 0 then (LO_M_summed_15 fu n  I1 L1) else ((FO_M_openNow fu  I1 L1).bind (fun u2 => let r2 := u2.1; let I2 := u2.2.1; let L2 := u2.2.2; if r2 < 0 then ((FO_M_settle fu 1 I2 L2).bind (fun u3 => let r3 := u3.1; let I3 := u3.2.1; let L3 := u3.2.2; some (0, I3, L3))) else (some (1, I2, L2))))) else (some (r1, I1, L1)))) else ((FO_M_behindOne fu  I L).bind (fun u4 => let r4 := u4.1; let I4 := u4.2.1; let L4 := u4.2.2; if r4 ≤ 0 then (if r4 = 0 then (LO_M_summed_15 fu n  I4 L4) else ((FO_M_openNow fu  I4 L4).bind (fun u5 => let r5 := u5.1; let I5 := u5.2.1; let L5 := u5.2.2; if r5 < 0 then ((FO_M_settle fu 1 I5 L5).bind (fun u6 => let r6 := u6.1; let I6 := u6.2.1; let L6 := u6.2.2; some (0, I6, L6))) else (some (1, I5, L5))))) else (some (r4, I4, L4))))
set_option maxHeartbeats 20000000 in
set_option maxRecDepth 20000 in
theorem lo_M_summed_15 {d fu n0 s0 : Nat} {X : Nat × (Nat → Int32)} {Q : PQ} {res : Int32 × (Nat → Nat → Int32) × (Nat → Nat → Int64)}  (g : Q (some (.int res.1)) (HS res.2.1 res.2.2 X)) : ∀ (n : Nat) (I : Nat → Nat → Int32) (L : Nat → Nat → Int64), LO_M_summed_15 fu n  I L = some res → Wp (Ev (d + 7)) cd_M_summed (0, 0) (some .int) n0 s0 Q 15 [(0, .ref 331)] [] (HS I L X) := by
  intro n
  induction n with
  | zero => intro  _ _ q; cases q
  | succ n ih =>
    intro  I L q
    unfold LO_M_summed_15 at q
    refine w_aload_n (Ev.cm _) rfl rfl ?_
    refine w_getI (Ev.cm _) rfl (Nat.le_of_ble_eq_true rfl) rfl ?_
    refine w_if_eq (Ev.cm _) rfl (fun c1 => ?_) (fun c1 => ?_)
    · have c1 : I 331 18 = 0 := c1
      rw [if_pos c1] at q
      refine w_aload_n (Ev.cm _) rfl rfl ?_
      obtain ⟨⟨r1, I1, L1⟩, e1, q⟩ := obs q
      dsimp only at q
      refine w_cvirt (o := 331) (as := []) (st := []) (Ev.cm _) rfl rfl rfl (Nat.le_of_ble_eq_true rfl) (Nat.le_of_ble_eq_true rfl) rfl (Nat.le_of_ble_eq_true rfl) (eo_M_beginOne (g := ?_) e1)
      show Wp _ _ _ _ _ _ _ 33 [(0, .ref 331)] [.int r1] (HS I1 L1 X)
      refine w_istore_n (ls2 := [(0, .ref 331), (1, .int r1)]) (Ev.cm _) rfl rfl ?_
      refine w_iload_n (Ev.cm _) rfl rfl ?_
      refine w_if_le (Ev.cm _) rfl (fun c2 => ?_) (fun c2 => ?_)
      · have c2 : r1 ≤ 0 := c2
        rw [if_pos c2] at q
        refine w_iload_n (Ev.cm _) rfl rfl ?_
        refine w_if_ne (Ev.cm _) rfl (fun c3 => ?_) (fun c3 => ?_)
        · have c3 : ¬ (r1 = 0) := c3
          rw [if_neg c3] at q
          refine w_aload_n (Ev.cm _) rfl rfl ?_
          obtain ⟨⟨r2, I2, L2⟩, e2, q⟩ := obs q
          dsimp only at q
          refine w_cvirt (o := 331) (as := []) (st := []) (Ev.cm _) rfl rfl rfl (Nat.le_of_ble_eq_true rfl) (Nat.le_of_ble_eq_true rfl) rfl (Nat.le_of_ble_eq_true rfl) (eo_M_openNow (g := ?_) e2)
          show Wp _ _ _ _ _ _ _ 51 [(0, .ref 331), (1, .int r1)] [.int r2] (HS I2 L2 X)
          refine w_if_lt (Ev.cm _) rfl (fun c4 => ?_) (fun c4 => ?_)
          · have c4 : r2 < 0 := c4
            rw [if_pos c4] at q
            refine w_aload_n (Ev.cm _) rfl rfl ?_
            refine w_iconst (Ev.cm _) rfl ?_
            obtain ⟨⟨r3, I3, L3⟩, e3, q⟩ := obs q
            dsimp only at q
            refine w_cvirt (o := 331) (as := [.int 1]) (st := []) (Ev.cm _) rfl rfl rfl (Nat.le_of_ble_eq_true rfl) (Nat.le_of_ble_eq_true rfl) rfl (Nat.le_of_ble_eq_true rfl) (eo_M_settle (g := ?_) e3)
            show Wp _ _ _ _ _ _ _ 61 [(0, .ref 331), (1, .int r1)] [] (HS I3 L3 X)
            refine w_iconst (Ev.cm _) rfl ?_
            refine w_ireturn (Ev.cm _) rfl trivial rf0 ?_
            cases q
            exact g
          · have c4 : ¬ (r2 < 0) := c4
            rw [if_neg c4] at q
            refine w_iconst (Ev.cm _) rfl ?_
            refine w_ireturn (Ev.cm _) rfl trivial rf0 ?_
            cases q
            exact g
        · have c3 : r1 = 0 := c3
          rw [if_pos c3] at q
          refine w_goto (Ev.cm _) rfl ?_
          show Wp _ _ _ _ _ _ _ 15 [(0, .ref 331), (1, .int r1)] [] (HS I1 L1 X)
          refine Wp.sub [0] (ls2 := [(0, .ref 331)]) rfl ?_
          exact ih _ _ q
      · have c2 : ¬ (r1 ≤ 0) := c2
        rw [if_neg c2] at q
        refine w_iload_n (Ev.cm _) rfl rfl ?_
        refine w_ireturn (Ev.cm _) rfl trivial rf0 ?_
        cases q
        exact g
    · have c1 : ¬ (I 331 18 = 0) := c1
      rw [if_neg c1] at q
      refine w_aload_n (Ev.cm _) rfl rfl ?_
      obtain ⟨⟨r4, I4, L4⟩, e4, q⟩ := obs q
      dsimp only at q
      refine w_cvirt (o := 331) (as := []) (st := []) (Ev.cm _) rfl rfl rfl (Nat.le_of_ble_eq_true rfl) (Nat.le_of_ble_eq_true rfl) rfl (Nat.le_of_ble_eq_true rfl) (eo_M_behindOne (g := ?_) e4)
      show Wp _ _ _ _ _ _ _ 26 [(0, .ref 331)] [.int r4] (HS I4 L4 X)
      refine w_goto (Ev.cm _) rfl ?_
      refine w_istore_n (ls2 := [(0, .ref 331), (1, .int r4)]) (Ev.cm _) rfl rfl ?_
      refine w_iload_n (Ev.cm _) rfl rfl ?_
      refine w_if_le (Ev.cm _) rfl (fun c5 => ?_) (fun c5 => ?_)
      · have c5 : r4 ≤ 0 := c5
        rw [if_pos c5] at q
        refine w_iload_n (Ev.cm _) rfl rfl ?_
        refine w_if_ne (Ev.cm _) rfl (fun c6 => ?_) (fun c6 => ?_)
        · have c6 : ¬ (r4 = 0) := c6
          rw [if_neg c6] at q
          refine w_aload_n (Ev.cm _) rfl rfl ?_
          obtain ⟨⟨r5, I5, L5⟩, e5, q⟩ := obs q
          dsimp only at q
          refine w_cvirt (o := 331) (as := []) (st := []) (Ev.cm _) rfl rfl rfl (Nat.le_of_ble_eq_true rfl) (Nat.le_of_ble_eq_true rfl) rfl (Nat.le_of_ble_eq_true rfl) (eo_M_openNow (g := ?_) e5)
          show Wp _ _ _ _ _ _ _ 51 [(0, .ref 331), (1, .int r4)] [.int r5] (HS I5 L5 X)
          refine w_if_lt (Ev.cm _) rfl (fun c7 => ?_) (fun c7 => ?_)
          · have c7 : r5 < 0 := c7
            rw [if_pos c7] at q
            refine w_aload_n (Ev.cm _) rfl rfl ?_
            refine w_iconst (Ev.cm _) rfl ?_
            obtain ⟨⟨r6, I6, L6⟩, e6, q⟩ := obs q
            dsimp only at q
            refine w_cvirt (o := 331) (as := [.int 1]) (st := []) (Ev.cm _) rfl rfl rfl (Nat.le_of_ble_eq_true rfl) (Nat.le_of_ble_eq_true rfl) rfl (Nat.le_of_ble_eq_true rfl) (eo_M_settle (g := ?_) e6)
            show Wp _ _ _ _ _ _ _ 61 [(0, .ref 331), (1, .int r4)] [] (HS I6 L6 X)
            refine w_iconst (Ev.cm _) rfl ?_
            refine w_ireturn (Ev.cm _) rfl trivial rf0 ?_
            cases q
            exact g
          · have c7 : ¬ (r5 < 0) := c7
            rw [if_neg c7] at q
            refine w_iconst (Ev.cm _) rfl ?_
            refine w_ireturn (Ev.cm _) rfl trivial rf0 ?_
            cases q
            exact g
        · have c6 : r4 = 0 := c6
          rw [if_pos c6] at q
          refine w_goto (Ev.cm _) rfl ?_
          show Wp _ _ _ _ _ _ _ 15 [(0, .ref 331), (1, .int r4)] [] (HS I4 L4 X)
          refine Wp.sub [0] (ls2 := [(0, .ref 331)]) rfl ?_
          exact ih _ _ q
      · have c5 : ¬ (r4 ≤ 0) := c5
        rw [if_neg c5] at q
        refine w_iload_n (Ev.cm _) rfl rfl ?_
        refine w_ireturn (Ev.cm _) rfl trivial rf0 ?_
        cases q
        exact g
def FO_M_summed (fu : Nat) (I : Nat → Nat → Int32) (L : Nat → Nat → Int64) : Option (Int32 × (Nat → Nat → Int32) × (Nat → Nat → Int64)) := LO_M_summed_15 fu fu  (sI (sI (sI I 331 16 0) 331 17 0) 331 18 0) L
set_option maxHeartbeats 20000000 in
set_option maxRecDepth 20000 in
theorem eo_M_summed {d fu : Nat} {I : Nat → Nat → Int32} {L : Nat → Nat → Int64} {X : Nat × (Nat → Int32)} {Q : PQ} {res : Int32 × (Nat → Nat → Int32) × (Nat → Nat → Int64)}  (g : Q (some (.int res.1)) (HS res.2.1 res.2.2 X)) (q : FO_M_summed fu  I L = some res) : Ev (d + 8) m_M_summed [.ref 331] (HS I L X) Q := by
  unfold FO_M_summed at q
  refine ev_start (d := d + 7) rfl rfl rfl (Nat.le_of_ble_eq_true rfl) ?_
  show Wp (Ev (d + 7)) cd_M_summed (0, 0) (some .int) _ _ Q 0 [(0, .ref 331)] [] (HS I L X)
  refine w_aload_n (Ev.cm _) rfl rfl ?_
  refine w_iconst (Ev.cm _) rfl ?_
  refine w_putI (Ev.cm _) rfl (Nat.le_of_ble_eq_true rfl) rfl ?_
  refine w_aload_n (Ev.cm _) rfl rfl ?_
  refine w_iconst (Ev.cm _) rfl ?_
  refine w_putI (Ev.cm _) rfl (Nat.le_of_ble_eq_true rfl) rfl ?_
  refine w_aload_n (Ev.cm _) rfl rfl ?_
  refine w_iconst (Ev.cm _) rfl ?_
  refine w_putZ (Ev.cm _) rfl (Nat.le_of_ble_eq_true rfl) rfl (by first | decide | exact bI_b) ?_
  show Wp _ _ _ _ _ _ _ 15 [(0, .ref 331)] [] (HS (sI (sI (sI I 331 16 0) 331 17 0) 331 18 0) L X)
  refine Wp.sub [0] (ls2 := [(0, .ref 331)]) rfl ?_
  exact lo_M_summed_15 g fu _ _ q
def FO_M_lawClause (fu : Nat) (p0 : Int32) (I : Nat → Nat → Int32) (L : Nat → Nat → Int64) : Option (Int32 × (Nat → Nat → Int32) × (Nat → Nat → Int64)) := if 0 ≤ p0 + 1 ∧ p0 + 1 < 2724 then ((FO_M_summed fu  (sI I 334 ((p0 + 1).toNatClampNeg) (I 331 13)) L).bind (fun u2 => let r2 := u2.1; let I2 := u2.2.1; let L2 := u2.2.2; if 0 ≤ p0 + 2 ∧ p0 + 2 < 2724 then (some (r2, sI I2 334 ((p0 + 2).toNatClampNeg) (I2 331 13), L2)) else none)) else none
set_option maxHeartbeats 20000000 in
set_option maxRecDepth 20000 in
theorem eo_M_lawClause {d fu : Nat} {p0 : Int32} {I : Nat → Nat → Int32} {L : Nat → Nat → Int64} {X : Nat × (Nat → Int32)} {Q : PQ} {res : Int32 × (Nat → Nat → Int32) × (Nat → Nat → Int64)}  (g : Q (some (.int res.1)) (HS res.2.1 res.2.2 X)) (q : FO_M_lawClause fu p0 I L = some res) : Ev (d + 9) m_M_lawClause [.ref 331, .int p0] (HS I L X) Q := by
  unfold FO_M_lawClause at q
  refine ev_start (d := d + 8) rfl rfl rfl (Nat.le_of_ble_eq_true rfl) ?_
  show Wp (Ev (d + 8)) cd_M_lawClause (0, 0) (some .int) _ _ Q 0 [(0, .ref 331), (1, .int p0)] [] (HS I L X)
  refine w_aload_n (Ev.cm _) rfl rfl ?_
  refine w_getR (q := 334) (Ev.cm _) rfl (Nat.le_of_ble_eq_true rfl) rfl rfl ?_
  refine w_iload_n (Ev.cm _) rfl rfl ?_
  refine w_iconst (Ev.cm _) rfl ?_
  refine w_iadd (Ev.cm _) rfl ?_
  refine w_aload_n (Ev.cm _) rfl rfl ?_
  refine w_getI (Ev.cm _) rfl (Nat.le_of_ble_eq_true rfl) rfl ?_
  obtain ⟨b1, q⟩ := ois q
  refine w_iast (Ev.cm _) rfl (Nat.le_of_ble_eq_true rfl) rfl (show vp_in (p0 + 1) 2724 from vpI 2724 (by decide) b1.1 b1.2) ?_
  refine w_aload_n (Ev.cm _) rfl rfl ?_
  obtain ⟨⟨r2, I2, L2⟩, e2, q⟩ := obs q
  dsimp only at q
  refine w_cvirt (o := 331) (as := []) (st := []) (Ev.cm _) rfl rfl rfl (Nat.le_of_ble_eq_true rfl) (Nat.le_of_ble_eq_true rfl) rfl (Nat.le_of_ble_eq_true rfl) (eo_M_summed (g := ?_) e2)
  show Wp _ _ _ _ _ _ _ 16 [(0, .ref 331), (1, .int p0)] [.int r2] (HS I2 L2 X)
  refine w_istore_n (ls2 := [(0, .ref 331), (1, .int p0), (2, .int r2)]) (Ev.cm _) rfl rfl ?_
  refine w_aload_n (Ev.cm _) rfl rfl ?_
  refine w_getR (q := 334) (Ev.cm _) rfl (Nat.le_of_ble_eq_true rfl) rfl rfl ?_
  refine w_iload_n (Ev.cm _) rfl rfl ?_
  refine w_iconst (Ev.cm _) rfl ?_
  refine w_iadd (Ev.cm _) rfl ?_
  refine w_aload_n (Ev.cm _) rfl rfl ?_
  refine w_getI (Ev.cm _) rfl (Nat.le_of_ble_eq_true rfl) rfl ?_
  obtain ⟨b3, q⟩ := ois q
  refine w_iast (Ev.cm _) rfl (Nat.le_of_ble_eq_true rfl) rfl (show vp_in (p0 + 2) 2724 from vpI 2724 (by decide) b3.1 b3.2) ?_
  refine w_iload_n (Ev.cm _) rfl rfl ?_
  refine w_ireturn (Ev.cm _) rfl trivial rf0 ?_
  cases q
  exact g
def FO_M_body (fu : Nat) (p0 : Int32) (p1 : Int32) (I : Nat → Nat → Int32) (L : Nat → Nat → Int64) : Option (Int32 × (Nat → Nat → Int32) × (Nat → Nat → Int64)) := if p0 = 2 then ((FO_M_w5 fu 102 108 111 111 114 I L).bind (fun u1 => let r1 := u1.1; let I1 := u1.2.1; let L1 := u1.2.2; (FO_M_pair fu p1 1 9 r1 1 12 I1 L1).bind (fun u2 => let r2 := u2.1; let I2 := u2.2.1; let L2 := u2.2.2; some (r2, I2, L2)))) else (if p0 = 3 then ((FO_M_w2 fu 98 121 I L).bind (fun u3 => let r3 := u3.1; let I3 := u3.2.1; let L3 := u3.2.2; (FO_M_pair fu p1 1 3 r3 0 5 I3 L3).bind (fun u4 => let r4 := u4.1; let I4 := u4.2.1; let L4 := u4.2.2; some (r4, I4, L4)))) else (if p0 = 4 then ((FO_M_w2 fu 98 121 I L).bind (fun u5 => let r5 := u5.1; let I5 := u5.2.1; let L5 := u5.2.2; (FO_M_pair fu p1 1 3 r5 0 5 I5 L5).bind (fun u6 => let r6 := u6.1; let I6 := u6.2.1; let L6 := u6.2.2; some (r6, I6, L6)))) else (if p0 = 5 then ((FO_M_figure fu (p1 + 1) 1 12 I L).bind (fun u7 => let r7 := u7.1; let I7 := u7.2.1; let L7 := u7.2.2; some (r7, I7, L7))) else (if p0 = 6 then ((FO_M_figure fu (p1 + 1) 1 12 I L).bind (fun u8 => let r8 := u8.1; let I8 := u8.2.1; let L8 := u8.2.2; some (r8, I8, L8))) else (if p0 = 7 then ((FO_M_figure fu (p1 + 1) 1 60 I L).bind (fun u9 => let r9 := u9.1; let I9 := u9.2.1; let L9 := u9.2.2; some (r9, I9, L9))) else ((FO_M_lawClause fu p1 I L).bind (fun u10 => let r10 := u10.1; let I10 := u10.2.1; let L10 := u10.2.2; some (r10, I10, L10))))))))
set_option maxHeartbeats 20000000 in
set_option maxRecDepth 20000 in
theorem eo_M_body {d fu : Nat} {p0 : Int32} {p1 : Int32} {I : Nat → Nat → Int32} {L : Nat → Nat → Int64} {X : Nat × (Nat → Int32)} {Q : PQ} {res : Int32 × (Nat → Nat → Int32) × (Nat → Nat → Int64)}  (g : Q (some (.int res.1)) (HS res.2.1 res.2.2 X)) (q : FO_M_body fu p0 p1 I L = some res) : Ev (d + 10) m_M_body [.ref 331, .int p0, .int p1] (HS I L X) Q := by
  unfold FO_M_body at q
  refine ev_start (d := d + 9) rfl rfl rfl (Nat.le_of_ble_eq_true rfl) ?_
  show Wp (Ev (d + 9)) cd_M_body (0, 0) (some .int) _ _ Q 0 [(0, .ref 331), (1, .int p0), (2, .int p1)] [] (HS I L X)
  refine w_iload_n (Ev.cm _) rfl rfl ?_
  refine w_tswL (Ev.cm _) [(2, 39), (3, 64), (4, 81), (5, 98), (6, 109), (7, 120)] rfl (by decide +kernel) (by decide +kernel) ?_
  refine ⟨fun c1 => ?_, fun c1_0 => ⟨fun c1 => ?_, fun c1_1 => ⟨fun c1 => ?_, fun c1_2 => ⟨fun c1 => ?_, fun c1_3 => ⟨fun c1 => ?_, fun c1_4 => ⟨fun c1 => ?_, fun c1_5 => ?_⟩⟩⟩⟩⟩⟩
  · have c1 : p0 = 2 := sw_v c1 (by decide)
    rw [if_pos c1] at q
    show Wp _ _ _ _ _ _ _ 40 [(0, .ref 331), (1, .int p0), (2, .int p1)] [] (HS I L X)
    refine w_aload_n (Ev.cm _) rfl rfl ?_
    refine w_iload_n (Ev.cm _) rfl rfl ?_
    refine w_iconst (Ev.cm _) rfl ?_
    refine w_bipush (Ev.cm _) rfl ?_
    refine w_bipush (Ev.cm _) rfl ?_
    refine w_bipush (Ev.cm _) rfl ?_
    refine w_bipush (Ev.cm _) rfl ?_
    refine w_bipush (Ev.cm _) rfl ?_
    refine w_bipush (Ev.cm _) rfl ?_
    obtain ⟨⟨r1, I1, L1⟩, e1, q⟩ := obs q
    dsimp only at q
    refine w_cstat (as := [.int 102, .int 108, .int 111, .int 111, .int 114]) (st := [.int 9, .int 1, .int p1, .ref 331]) (Ev.cm _) rfl rfl rfl (Nat.le_of_ble_eq_true rfl) (Nat.le_of_ble_eq_true rfl) (eo_M_w5 (g := ?_) e1)
    show Wp _ _ _ _ _ _ _ 58 [(0, .ref 331), (1, .int p0), (2, .int p1)] [.long r1, .int 9, .int 1, .int p1, .ref 331] (HS I1 L1 X)
    refine w_iconst (Ev.cm _) rfl ?_
    refine w_bipush (Ev.cm _) rfl ?_
    obtain ⟨⟨r2, I2, L2⟩, e2, q⟩ := obs q
    dsimp only at q
    refine w_cvirt (o := 331) (as := [.int p1, .int 1, .int 9, .long r1, .int 1, .int 12]) (st := []) (Ev.cm _) rfl rfl rfl (Nat.le_of_ble_eq_true rfl) (Nat.le_of_ble_eq_true rfl) rfl (Nat.le_of_ble_eq_true rfl) (eo_M_pair (g := ?_) e2)
    show Wp _ _ _ _ _ _ _ 64 [(0, .ref 331), (1, .int p0), (2, .int p1)] [.int r2] (HS I2 L2 X)
    refine w_ireturn (Ev.cm _) rfl trivial rf0 ?_
    cases q
    exact g
  · have c1_0 : ¬ p0 = 2 := sw_w c1_0 (by decide)
    have c1 : p0 = 3 := sw_v c1 (by decide)
    rw [if_neg c1_0, if_pos c1] at q
    show Wp _ _ _ _ _ _ _ 65 [(0, .ref 331), (1, .int p0), (2, .int p1)] [] (HS I L X)
    refine w_aload_n (Ev.cm _) rfl rfl ?_
    refine w_iload_n (Ev.cm _) rfl rfl ?_
    refine w_iconst (Ev.cm _) rfl ?_
    refine w_iconst (Ev.cm _) rfl ?_
    refine w_bipush (Ev.cm _) rfl ?_
    refine w_bipush (Ev.cm _) rfl ?_
    obtain ⟨⟨r3, I3, L3⟩, e3, q⟩ := obs q
    dsimp only at q
    refine w_cstat (as := [.int 98, .int 121]) (st := [.int 3, .int 1, .int p1, .ref 331]) (Ev.cm _) rfl rfl rfl (Nat.le_of_ble_eq_true rfl) (Nat.le_of_ble_eq_true rfl) (eo_M_w2 (g := ?_) e3)
    show Wp _ _ _ _ _ _ _ 76 [(0, .ref 331), (1, .int p0), (2, .int p1)] [.long r3, .int 3, .int 1, .int p1, .ref 331] (HS I3 L3 X)
    refine w_iconst (Ev.cm _) rfl ?_
    refine w_iconst (Ev.cm _) rfl ?_
    obtain ⟨⟨r4, I4, L4⟩, e4, q⟩ := obs q
    dsimp only at q
    refine w_cvirt (o := 331) (as := [.int p1, .int 1, .int 3, .long r3, .int 0, .int 5]) (st := []) (Ev.cm _) rfl rfl rfl (Nat.le_of_ble_eq_true rfl) (Nat.le_of_ble_eq_true rfl) rfl (Nat.le_of_ble_eq_true rfl) (eo_M_pair (g := ?_) e4)
    show Wp _ _ _ _ _ _ _ 81 [(0, .ref 331), (1, .int p0), (2, .int p1)] [.int r4] (HS I4 L4 X)
    refine w_ireturn (Ev.cm _) rfl trivial rf0 ?_
    cases q
    exact g
  · have c1_0 : ¬ p0 = 2 := sw_w c1_0 (by decide)
    have c1_1 : ¬ p0 = 3 := sw_w c1_1 (by decide)
    have c1 : p0 = 4 := sw_v c1 (by decide)
    rw [if_neg c1_0, if_neg c1_1, if_pos c1] at q
    show Wp _ _ _ _ _ _ _ 82 [(0, .ref 331), (1, .int p0), (2, .int p1)] [] (HS I L X)
    refine w_aload_n (Ev.cm _) rfl rfl ?_
    refine w_iload_n (Ev.cm _) rfl rfl ?_
    refine w_iconst (Ev.cm _) rfl ?_
    refine w_iconst (Ev.cm _) rfl ?_
    refine w_bipush (Ev.cm _) rfl ?_
    refine w_bipush (Ev.cm _) rfl ?_
    obtain ⟨⟨r5, I5, L5⟩, e5, q⟩ := obs q
    dsimp only at q
    refine w_cstat (as := [.int 98, .int 121]) (st := [.int 3, .int 1, .int p1, .ref 331]) (Ev.cm _) rfl rfl rfl (Nat.le_of_ble_eq_true rfl) (Nat.le_of_ble_eq_true rfl) (eo_M_w2 (g := ?_) e5)
    show Wp _ _ _ _ _ _ _ 93 [(0, .ref 331), (1, .int p0), (2, .int p1)] [.long r5, .int 3, .int 1, .int p1, .ref 331] (HS I5 L5 X)
    refine w_iconst (Ev.cm _) rfl ?_
    refine w_iconst (Ev.cm _) rfl ?_
    obtain ⟨⟨r6, I6, L6⟩, e6, q⟩ := obs q
    dsimp only at q
    refine w_cvirt (o := 331) (as := [.int p1, .int 1, .int 3, .long r5, .int 0, .int 5]) (st := []) (Ev.cm _) rfl rfl rfl (Nat.le_of_ble_eq_true rfl) (Nat.le_of_ble_eq_true rfl) rfl (Nat.le_of_ble_eq_true rfl) (eo_M_pair (g := ?_) e6)
    show Wp _ _ _ _ _ _ _ 98 [(0, .ref 331), (1, .int p0), (2, .int p1)] [.int r6] (HS I6 L6 X)
    refine w_ireturn (Ev.cm _) rfl trivial rf0 ?_
    cases q
    exact g
  · have c1_0 : ¬ p0 = 2 := sw_w c1_0 (by decide)
    have c1_1 : ¬ p0 = 3 := sw_w c1_1 (by decide)
    have c1_2 : ¬ p0 = 4 := sw_w c1_2 (by decide)
    have c1 : p0 = 5 := sw_v c1 (by decide)
    rw [if_neg c1_0, if_neg c1_1, if_neg c1_2, if_pos c1] at q
    show Wp _ _ _ _ _ _ _ 99 [(0, .ref 331), (1, .int p0), (2, .int p1)] [] (HS I L X)
    refine w_aload_n (Ev.cm _) rfl rfl ?_
    refine w_iload_n (Ev.cm _) rfl rfl ?_
    refine w_iconst (Ev.cm _) rfl ?_
    refine w_iadd (Ev.cm _) rfl ?_
    refine w_iconst (Ev.cm _) rfl ?_
    refine w_bipush (Ev.cm _) rfl ?_
    obtain ⟨⟨r7, I7, L7⟩, e7, q⟩ := obs q
    dsimp only at q
    refine w_cvirt (o := 331) (as := [.int (p1 + 1), .int 1, .int 12]) (st := []) (Ev.cm _) rfl rfl rfl (Nat.le_of_ble_eq_true rfl) (Nat.le_of_ble_eq_true rfl) rfl (Nat.le_of_ble_eq_true rfl) (eo_M_figure (g := ?_) e7)
    show Wp _ _ _ _ _ _ _ 109 [(0, .ref 331), (1, .int p0), (2, .int p1)] [.int r7] (HS I7 L7 X)
    refine w_ireturn (Ev.cm _) rfl trivial rf0 ?_
    cases q
    exact g
  · have c1_0 : ¬ p0 = 2 := sw_w c1_0 (by decide)
    have c1_1 : ¬ p0 = 3 := sw_w c1_1 (by decide)
    have c1_2 : ¬ p0 = 4 := sw_w c1_2 (by decide)
    have c1_3 : ¬ p0 = 5 := sw_w c1_3 (by decide)
    have c1 : p0 = 6 := sw_v c1 (by decide)
    rw [if_neg c1_0, if_neg c1_1, if_neg c1_2, if_neg c1_3, if_pos c1] at q
    show Wp _ _ _ _ _ _ _ 110 [(0, .ref 331), (1, .int p0), (2, .int p1)] [] (HS I L X)
    refine w_aload_n (Ev.cm _) rfl rfl ?_
    refine w_iload_n (Ev.cm _) rfl rfl ?_
    refine w_iconst (Ev.cm _) rfl ?_
    refine w_iadd (Ev.cm _) rfl ?_
    refine w_iconst (Ev.cm _) rfl ?_
    refine w_bipush (Ev.cm _) rfl ?_
    obtain ⟨⟨r8, I8, L8⟩, e8, q⟩ := obs q
    dsimp only at q
    refine w_cvirt (o := 331) (as := [.int (p1 + 1), .int 1, .int 12]) (st := []) (Ev.cm _) rfl rfl rfl (Nat.le_of_ble_eq_true rfl) (Nat.le_of_ble_eq_true rfl) rfl (Nat.le_of_ble_eq_true rfl) (eo_M_figure (g := ?_) e8)
    show Wp _ _ _ _ _ _ _ 120 [(0, .ref 331), (1, .int p0), (2, .int p1)] [.int r8] (HS I8 L8 X)
    refine w_ireturn (Ev.cm _) rfl trivial rf0 ?_
    cases q
    exact g
  · have c1_0 : ¬ p0 = 2 := sw_w c1_0 (by decide)
    have c1_1 : ¬ p0 = 3 := sw_w c1_1 (by decide)
    have c1_2 : ¬ p0 = 4 := sw_w c1_2 (by decide)
    have c1_3 : ¬ p0 = 5 := sw_w c1_3 (by decide)
    have c1_4 : ¬ p0 = 6 := sw_w c1_4 (by decide)
    have c1 : p0 = 7 := sw_v c1 (by decide)
    rw [if_neg c1_0, if_neg c1_1, if_neg c1_2, if_neg c1_3, if_neg c1_4, if_pos c1] at q
    show Wp _ _ _ _ _ _ _ 121 [(0, .ref 331), (1, .int p0), (2, .int p1)] [] (HS I L X)
    refine w_aload_n (Ev.cm _) rfl rfl ?_
    refine w_iload_n (Ev.cm _) rfl rfl ?_
    refine w_iconst (Ev.cm _) rfl ?_
    refine w_iadd (Ev.cm _) rfl ?_
    refine w_iconst (Ev.cm _) rfl ?_
    refine w_bipush (Ev.cm _) rfl ?_
    obtain ⟨⟨r9, I9, L9⟩, e9, q⟩ := obs q
    dsimp only at q
    refine w_cvirt (o := 331) (as := [.int (p1 + 1), .int 1, .int 60]) (st := []) (Ev.cm _) rfl rfl rfl (Nat.le_of_ble_eq_true rfl) (Nat.le_of_ble_eq_true rfl) rfl (Nat.le_of_ble_eq_true rfl) (eo_M_figure (g := ?_) e9)
    show Wp _ _ _ _ _ _ _ 131 [(0, .ref 331), (1, .int p0), (2, .int p1)] [.int r9] (HS I9 L9 X)
    refine w_ireturn (Ev.cm _) rfl trivial rf0 ?_
    cases q
    exact g
  · have c1_0 : ¬ p0 = 2 := sw_w c1_0 (by decide)
    have c1_1 : ¬ p0 = 3 := sw_w c1_1 (by decide)
    have c1_2 : ¬ p0 = 4 := sw_w c1_2 (by decide)
    have c1_3 : ¬ p0 = 5 := sw_w c1_3 (by decide)
    have c1_4 : ¬ p0 = 6 := sw_w c1_4 (by decide)
    have c1_5 : ¬ p0 = 7 := sw_w c1_5 (by decide)
    rw [if_neg c1_0, if_neg c1_1, if_neg c1_2, if_neg c1_3, if_neg c1_4, if_neg c1_5] at q
    show Wp _ _ _ _ _ _ _ 132 [(0, .ref 331), (1, .int p0), (2, .int p1)] [] (HS I L X)
    refine w_aload_n (Ev.cm _) rfl rfl ?_
    refine w_iload_n (Ev.cm _) rfl rfl ?_
    obtain ⟨⟨r10, I10, L10⟩, e10, q⟩ := obs q
    dsimp only at q
    refine w_cvirt (o := 331) (as := [.int p1]) (st := []) (Ev.cm _) rfl rfl rfl (Nat.le_of_ble_eq_true rfl) (Nat.le_of_ble_eq_true rfl) rfl (Nat.le_of_ble_eq_true rfl) (eo_M_lawClause (g := ?_) e10)
    show Wp _ _ _ _ _ _ _ 137 [(0, .ref 331), (1, .int p0), (2, .int p1)] [.int r10] (HS I10 L10 X)
    refine w_ireturn (Ev.cm _) rfl trivial rf0 ?_
    cases q
    exact g
def FO_M_clause (fu : Nat) (I : Nat → Nat → Int32) (L : Nat → Nat → Int64) : Option (Int32 × (Nat → Nat → Int32) × (Nat → Nat → Int64)) := (FO_M_sortOf fu  I L).bind (fun u1 => let r1 := u1.1; let I1 := u1.2.1; let L1 := u1.2.2; if 0 ≤ r1 then (if 1 < r1 then (if 0 ≤ I1 331 12 ∧ I1 331 12 < 2724 then (if I1 334 ((I1 331 12).toNatClampNeg) = 24 then (some (6, I1, L1)) else (if 1 < r1 then ((FO_M_nextToken fu  (sI I1 331 14 r1) L1).bind (fun u3 => let r3 := u3.1; let I3 := u3.2.1; let L3 := u3.2.2; if 0 ≤ ((I3 331 12) + 1) + ((3 : Int32) * (I1 334 ((I1 331 12).toNatClampNeg))) ∧ ((I3 331 12) + 1) + ((3 : Int32) * (I1 334 ((I1 331 12).toNatClampNeg))) < 2724 then ((FO_M_body fu r1 (((I3 331 12) + 1) + ((3 : Int32) * (I1 334 ((I1 331 12).toNatClampNeg)))) (sI I3 334 ((((I3 331 12) + 1) + ((3 : Int32) * (I1 334 ((I1 331 12).toNatClampNeg)))).toNatClampNeg) r1) L3).bind (fun u5 => let r5 := u5.1; let I5 := u5.2.1; let L5 := u5.2.2; if r5 = 0 then (if 0 ≤ I5 331 12 ∧ I5 331 12 < 2724 then (if 0 ≤ I5 331 12 ∧ I5 331 12 < 2724 then (if I5 331 9 = 59 then ((FO_M_nextToken fu  (sI I5 334 ((I5 331 12).toNatClampNeg) ((I5 334 ((I5 331 12).toNatClampNeg)) + 1)) L5).bind (fun u8 => let r8 := u8.1; let I8 := u8.2.1; let L8 := u8.2.2; some (0, I8, L8))) else (some (1, sI I5 334 ((I5 331 12).toNatClampNeg) ((I5 334 ((I5 331 12).toNatClampNeg)) + 1), L5))) else none) else none) else (some (r5, I5, L5)))) else none)) else ((FO_M_nextToken fu  (sI (sI I1 331 19 ((I1 331 19) ||| ((1 : Int32) <<< (r1 &&& 31)))) 331 14 r1) L1).bind (fun u9 => let r9 := u9.1; let I9 := u9.2.1; let L9 := u9.2.2; if 0 ≤ ((I9 331 12) + 1) + ((3 : Int32) * (I1 334 ((I1 331 12).toNatClampNeg))) ∧ ((I9 331 12) + 1) + ((3 : Int32) * (I1 334 ((I1 331 12).toNatClampNeg))) < 2724 then ((FO_M_body fu r1 (((I9 331 12) + 1) + ((3 : Int32) * (I1 334 ((I1 331 12).toNatClampNeg)))) (sI I9 334 ((((I9 331 12) + 1) + ((3 : Int32) * (I1 334 ((I1 331 12).toNatClampNeg)))).toNatClampNeg) r1) L9).bind (fun u11 => let r11 := u11.1; let I11 := u11.2.1; let L11 := u11.2.2; if r11 = 0 then (if 0 ≤ I11 331 12 ∧ I11 331 12 < 2724 then (if 0 ≤ I11 331 12 ∧ I11 331 12 < 2724 then (if I11 331 9 = 59 then ((FO_M_nextToken fu  (sI I11 334 ((I11 331 12).toNatClampNeg) ((I11 334 ((I11 331 12).toNatClampNeg)) + 1)) L11).bind (fun u14 => let r14 := u14.1; let I14 := u14.2.1; let L14 := u14.2.2; some (0, I14, L14))) else (some (1, sI I11 334 ((I11 331 12).toNatClampNeg) ((I11 334 ((I11 331 12).toNatClampNeg)) + 1), L11))) else none) else none) else (some (r11, I11, L11)))) else none)))) else none) else ((FO_M_has fu (I1 331 19) r1 I1 L1).bind (fun u15 => let r15 := u15.1; let I15 := u15.2.1; let L15 := u15.2.2; if r15 = 0 then (if 0 ≤ I15 331 12 ∧ I15 331 12 < 2724 then (if I15 334 ((I15 331 12).toNatClampNeg) = 24 then (some (6, I15, L15)) else (if 1 < r1 then ((FO_M_nextToken fu  (sI I15 331 14 r1) L15).bind (fun u17 => let r17 := u17.1; let I17 := u17.2.1; let L17 := u17.2.2; if 0 ≤ ((I17 331 12) + 1) + ((3 : Int32) * (I15 334 ((I15 331 12).toNatClampNeg))) ∧ ((I17 331 12) + 1) + ((3 : Int32) * (I15 334 ((I15 331 12).toNatClampNeg))) < 2724 then ((FO_M_body fu r1 (((I17 331 12) + 1) + ((3 : Int32) * (I15 334 ((I15 331 12).toNatClampNeg)))) (sI I17 334 ((((I17 331 12) + 1) + ((3 : Int32) * (I15 334 ((I15 331 12).toNatClampNeg)))).toNatClampNeg) r1) L17).bind (fun u19 => let r19 := u19.1; let I19 := u19.2.1; let L19 := u19.2.2; if r19 = 0 then (if 0 ≤ I19 331 12 ∧ I19 331 12 < 2724 then (if 0 ≤ I19 331 12 ∧ I19 331 12 < 2724 then (if I19 331 9 = 59 then ((FO_M_nextToken fu  (sI I19 334 ((I19 331 12).toNatClampNeg) ((I19 334 ((I19 331 12).toNatClampNeg)) + 1)) L19).bind (fun u22 => let r22 := u22.1; let I22 := u22.2.1; let L22 := u22.2.2; some (0, I22, L22))) else (some (1, sI I19 334 ((I19 331 12).toNatClampNeg) ((I19 334 ((I19 331 12).toNatClampNeg)) + 1), L19))) else none) else none) else (some (r19, I19, L19)))) else none)) else ((FO_M_nextToken fu  (sI (sI I15 331 19 ((I15 331 19) ||| ((1 : Int32) <<< (r1 &&& 31)))) 331 14 r1) L15).bind (fun u23 => let r23 := u23.1; let I23 := u23.2.1; let L23 := u23.2.2; if 0 ≤ ((I23 331 12) + 1) + ((3 : Int32) * (I15 334 ((I15 331 12).toNatClampNeg))) ∧ ((I23 331 12) + 1) + ((3 : Int32) * (I15 334 ((I15 331 12).toNatClampNeg))) < 2724 then ((FO_M_body fu r1 (((I23 331 12) + 1) + ((3 : Int32) * (I15 334 ((I15 331 12).toNatClampNeg)))) (sI I23 334 ((((I23 331 12) + 1) + ((3 : Int32) * (I15 334 ((I15 331 12).toNatClampNeg)))).toNatClampNeg) r1) L23).bind (fun u25 => let r25 := u25.1; let I25 := u25.2.1; let L25 := u25.2.2; if r25 = 0 then (if 0 ≤ I25 331 12 ∧ I25 331 12 < 2724 then (if 0 ≤ I25 331 12 ∧ I25 331 12 < 2724 then (if I25 331 9 = 59 then ((FO_M_nextToken fu  (sI I25 334 ((I25 331 12).toNatClampNeg) ((I25 334 ((I25 331 12).toNatClampNeg)) + 1)) L25).bind (fun u28 => let r28 := u28.1; let I28 := u28.2.1; let L28 := u28.2.2; some (0, I28, L28))) else (some (1, sI I25 334 ((I25 331 12).toNatClampNeg) ((I25 334 ((I25 331 12).toNatClampNeg)) + 1), L25))) else none) else none) else (some (r25, I25, L25)))) else none)))) else none) else (some (4, I15, L15))))) else (some (1, I1, L1)))
set_option maxHeartbeats 20000000 in
set_option maxRecDepth 20000 in
theorem eo_M_clause {d fu : Nat} {I : Nat → Nat → Int32} {L : Nat → Nat → Int64} {X : Nat × (Nat → Int32)} {Q : PQ} {res : Int32 × (Nat → Nat → Int32) × (Nat → Nat → Int64)}  (g : Q (some (.int res.1)) (HS res.2.1 res.2.2 X)) (q : FO_M_clause fu  I L = some res) : Ev (d + 11) m_M_clause [.ref 331] (HS I L X) Q := by
  unfold FO_M_clause at q
  refine ev_start (d := d + 10) rfl rfl rfl (Nat.le_of_ble_eq_true rfl) ?_
  show Wp (Ev (d + 10)) cd_M_clause (0, 0) (some .int) _ _ Q 0 [(0, .ref 331)] [] (HS I L X)
  refine w_aload_n (Ev.cm _) rfl rfl ?_
  obtain ⟨⟨r1, I1, L1⟩, e1, q⟩ := obs q
  dsimp only at q
  refine w_cvirt (o := 331) (as := []) (st := []) (Ev.cm _) rfl rfl rfl (Nat.le_of_ble_eq_true rfl) (Nat.le_of_ble_eq_true rfl) rfl (Nat.le_of_ble_eq_true rfl) (eo_M_sortOf (g := ?_) e1)
  show Wp _ _ _ _ _ _ _ 4 [(0, .ref 331)] [.int r1] (HS I1 L1 X)
  refine w_istore_n (ls2 := [(0, .ref 331), (1, .int r1)]) (Ev.cm _) rfl rfl ?_
  refine w_iload_n (Ev.cm _) rfl rfl ?_
  refine w_if_ge (Ev.cm _) rfl (fun c1 => ?_) (fun c1 => ?_)
  · have c1 : 0 ≤ r1 := c1
    rw [if_pos c1] at q
    refine w_iload_n (Ev.cm _) rfl rfl ?_
    refine w_iconst (Ev.cm _) rfl ?_
    refine w_icmp_gt (Ev.cm _) rfl (fun c2 => ?_) (fun c2 => ?_)
    · have c2 : 1 < r1 := c2
      rw [if_pos c2] at q
      refine w_aload_n (Ev.cm _) rfl rfl ?_
      refine w_getR (q := 334) (Ev.cm _) rfl (Nat.le_of_ble_eq_true rfl) rfl rfl ?_
      refine w_aload_n (Ev.cm _) rfl rfl ?_
      refine w_getI (Ev.cm _) rfl (Nat.le_of_ble_eq_true rfl) rfl ?_
      obtain ⟨b2, q⟩ := ois q
      refine w_iald (Ev.cm _) rfl (Nat.le_of_ble_eq_true rfl) rfl (show vp_in (I1 331 12) 2724 from vpI 2724 (by decide) b2.1 b2.2) ?_
      refine w_istore_n (ls2 := [(0, .ref 331), (1, .int r1), (2, .int (I1 334 ((I1 331 12).toNatClampNeg)))]) (Ev.cm _) rfl rfl ?_
      refine w_iload_n (Ev.cm _) rfl rfl ?_
      refine w_bipush (Ev.cm _) rfl ?_
      refine w_icmp_ne (Ev.cm _) rfl (fun c3 => ?_) (fun c3 => ?_)
      · have c3 : ¬ (I1 334 ((I1 331 12).toNatClampNeg) = 24) := c3
        rw [if_neg c3] at q
        refine w_iload_n (Ev.cm _) rfl rfl ?_
        refine w_iconst (Ev.cm _) rfl ?_
        refine w_icmp_gt (Ev.cm _) rfl (fun c4 => ?_) (fun c4 => ?_)
        · have c4 : 1 < r1 := c4
          rw [if_pos c4] at q
          refine w_aload_n (Ev.cm _) rfl rfl ?_
          refine w_iload_n (Ev.cm _) rfl rfl ?_
          refine w_putI (Ev.cm _) rfl (Nat.le_of_ble_eq_true rfl) rfl ?_
          refine w_aload_n (Ev.cm _) rfl rfl ?_
          obtain ⟨⟨r3, I3, L3⟩, e3, q⟩ := obs q
          dsimp only at q
          refine w_cvirt (o := 331) (as := []) (st := []) (Ev.cm _) rfl rfl rfl (Nat.le_of_ble_eq_true rfl) (Nat.le_of_ble_eq_true rfl) rfl (Nat.le_of_ble_eq_true rfl) (eo_M_nextToken (g := ?_) e3)
          show Wp _ _ _ _ _ _ _ 74 [(0, .ref 331), (1, .int r1), (2, .int (I1 334 ((I1 331 12).toNatClampNeg)))] [] (HS I3 L3 X)
          refine w_aload_n (Ev.cm _) rfl rfl ?_
          refine w_getI (Ev.cm _) rfl (Nat.le_of_ble_eq_true rfl) rfl ?_
          refine w_iconst (Ev.cm _) rfl ?_
          refine w_iadd (Ev.cm _) rfl ?_
          refine w_iconst (Ev.cm _) rfl ?_
          refine w_iload_n (Ev.cm _) rfl rfl ?_
          refine w_imul (Ev.cm _) rfl ?_
          refine w_iadd (Ev.cm _) rfl ?_
          refine w_istore_n (ls2 := [(0, .ref 331), (1, .int r1), (2, .int (I1 334 ((I1 331 12).toNatClampNeg))), (3, .int (((I3 331 12) + 1) + ((3 : Int32) * (I1 334 ((I1 331 12).toNatClampNeg)))))]) (Ev.cm _) rfl rfl ?_
          refine w_aload_n (Ev.cm _) rfl rfl ?_
          refine w_getR (q := 334) (Ev.cm _) rfl (Nat.le_of_ble_eq_true rfl) rfl rfl ?_
          refine w_iload_n (Ev.cm _) rfl rfl ?_
          refine w_iload_n (Ev.cm _) rfl rfl ?_
          obtain ⟨b4, q⟩ := ois q
          refine w_iast (Ev.cm _) rfl (Nat.le_of_ble_eq_true rfl) rfl (show vp_in (((I3 331 12) + 1) + ((3 : Int32) * (I1 334 ((I1 331 12).toNatClampNeg)))) 2724 from vpI 2724 (by decide) b4.1 b4.2) ?_
          refine w_aload_n (Ev.cm _) rfl rfl ?_
          refine w_iload_n (Ev.cm _) rfl rfl ?_
          refine w_iload_n (Ev.cm _) rfl rfl ?_
          obtain ⟨⟨r5, I5, L5⟩, e5, q⟩ := obs q
          dsimp only at q
          refine w_cvirt (o := 331) (as := [.int r1, .int (((I3 331 12) + 1) + ((3 : Int32) * (I1 334 ((I1 331 12).toNatClampNeg))))]) (st := []) (Ev.cm _) rfl rfl rfl (Nat.le_of_ble_eq_true rfl) (Nat.le_of_ble_eq_true rfl) rfl (Nat.le_of_ble_eq_true rfl) (eo_M_body (g := ?_) e5)
          show Wp _ _ _ _ _ _ _ 98 [(0, .ref 331), (1, .int r1), (2, .int (I1 334 ((I1 331 12).toNatClampNeg))), (3, .int (((I3 331 12) + 1) + ((3 : Int32) * (I1 334 ((I1 331 12).toNatClampNeg)))))] [.int r5] (HS I5 L5 X)
          refine w_istore (ls2 := [(0, .ref 331), (1, .int r1), (2, .int (I1 334 ((I1 331 12).toNatClampNeg))), (3, .int (((I3 331 12) + 1) + ((3 : Int32) * (I1 334 ((I1 331 12).toNatClampNeg))))), (4, .int r5)]) (Ev.cm _) rfl rfl ?_
          refine w_iload (Ev.cm _) rfl rfl ?_
          refine w_if_eq (Ev.cm _) rfl (fun c5 => ?_) (fun c5 => ?_)
          · have c5 : r5 = 0 := c5
            rw [if_pos c5] at q
            refine w_aload_n (Ev.cm _) rfl rfl ?_
            refine w_getR (q := 334) (Ev.cm _) rfl (Nat.le_of_ble_eq_true rfl) rfl rfl ?_
            refine w_aload_n (Ev.cm _) rfl rfl ?_
            refine w_getI (Ev.cm _) rfl (Nat.le_of_ble_eq_true rfl) rfl ?_
            refine w_dup2 (Ev.cm _) rfl rfl rfl ?_
            obtain ⟨b6, q⟩ := ois q
            refine w_iald (Ev.cm _) rfl (Nat.le_of_ble_eq_true rfl) rfl (show vp_in (I5 331 12) 2724 from vpI 2724 (by decide) b6.1 b6.2) ?_
            refine w_iconst (Ev.cm _) rfl ?_
            refine w_iadd (Ev.cm _) rfl ?_
            obtain ⟨b7, q⟩ := ois q
            refine w_iast (Ev.cm _) rfl (Nat.le_of_ble_eq_true rfl) rfl (show vp_in (I5 331 12) 2724 from vpI 2724 (by decide) b7.1 b7.2) ?_
            refine w_aload_n (Ev.cm _) rfl rfl ?_
            refine w_getI (Ev.cm _) rfl (Nat.le_of_ble_eq_true rfl) rfl ?_
            refine w_bipush (Ev.cm _) rfl ?_
            refine w_icmp_eq (Ev.cm _) rfl (fun c6 => ?_) (fun c6 => ?_)
            · have c6 : I5 331 9 = 59 := c6
              rw [if_pos c6] at q
              refine w_aload_n (Ev.cm _) rfl rfl ?_
              obtain ⟨⟨r8, I8, L8⟩, e8, q⟩ := obs q
              dsimp only at q
              refine w_cvirt (o := 331) (as := []) (st := []) (Ev.cm _) rfl rfl rfl (Nat.le_of_ble_eq_true rfl) (Nat.le_of_ble_eq_true rfl) rfl (Nat.le_of_ble_eq_true rfl) (eo_M_nextToken (g := ?_) e8)
              show Wp _ _ _ _ _ _ _ 136 [(0, .ref 331), (1, .int r1), (2, .int (I1 334 ((I1 331 12).toNatClampNeg))), (3, .int (((I3 331 12) + 1) + ((3 : Int32) * (I1 334 ((I1 331 12).toNatClampNeg))))), (4, .int r5)] [] (HS I8 L8 X)
              refine w_iconst (Ev.cm _) rfl ?_
              refine w_ireturn (Ev.cm _) rfl trivial rf0 ?_
              cases q
              exact g
            · have c6 : ¬ (I5 331 9 = 59) := c6
              rw [if_neg c6] at q
              refine w_iconst (Ev.cm _) rfl ?_
              refine w_ireturn (Ev.cm _) rfl trivial rf0 ?_
              cases q
              exact g
          · have c5 : ¬ (r5 = 0) := c5
            rw [if_neg c5] at q
            refine w_iload (Ev.cm _) rfl rfl ?_
            refine w_ireturn (Ev.cm _) rfl trivial rf0 ?_
            cases q
            exact g
        · have c4 : ¬ (1 < r1) := c4
          rw [if_neg c4] at q
          refine w_aload_n (Ev.cm _) rfl rfl ?_
          refine w_dup (Ev.cm _) rfl rfl ?_
          refine w_getI (Ev.cm _) rfl (Nat.le_of_ble_eq_true rfl) rfl ?_
          refine w_iconst (Ev.cm _) rfl ?_
          refine w_iload_n (Ev.cm _) rfl rfl ?_
          refine w_ishl (Ev.cm _) rfl ?_
          refine w_ior (Ev.cm _) rfl ?_
          refine w_putI (Ev.cm _) rfl (Nat.le_of_ble_eq_true rfl) rfl ?_
          refine w_aload_n (Ev.cm _) rfl rfl ?_
          refine w_iload_n (Ev.cm _) rfl rfl ?_
          refine w_putI (Ev.cm _) rfl (Nat.le_of_ble_eq_true rfl) rfl ?_
          refine w_aload_n (Ev.cm _) rfl rfl ?_
          obtain ⟨⟨r9, I9, L9⟩, e9, q⟩ := obs q
          dsimp only at q
          refine w_cvirt (o := 331) (as := []) (st := []) (Ev.cm _) rfl rfl rfl (Nat.le_of_ble_eq_true rfl) (Nat.le_of_ble_eq_true rfl) rfl (Nat.le_of_ble_eq_true rfl) (eo_M_nextToken (g := ?_) e9)
          show Wp _ _ _ _ _ _ _ 74 [(0, .ref 331), (1, .int r1), (2, .int (I1 334 ((I1 331 12).toNatClampNeg)))] [] (HS I9 L9 X)
          refine w_aload_n (Ev.cm _) rfl rfl ?_
          refine w_getI (Ev.cm _) rfl (Nat.le_of_ble_eq_true rfl) rfl ?_
          refine w_iconst (Ev.cm _) rfl ?_
          refine w_iadd (Ev.cm _) rfl ?_
          refine w_iconst (Ev.cm _) rfl ?_
          refine w_iload_n (Ev.cm _) rfl rfl ?_
          refine w_imul (Ev.cm _) rfl ?_
          refine w_iadd (Ev.cm _) rfl ?_
          refine w_istore_n (ls2 := [(0, .ref 331), (1, .int r1), (2, .int (I1 334 ((I1 331 12).toNatClampNeg))), (3, .int (((I9 331 12) + 1) + ((3 : Int32) * (I1 334 ((I1 331 12).toNatClampNeg)))))]) (Ev.cm _) rfl rfl ?_
          refine w_aload_n (Ev.cm _) rfl rfl ?_
          refine w_getR (q := 334) (Ev.cm _) rfl (Nat.le_of_ble_eq_true rfl) rfl rfl ?_
          refine w_iload_n (Ev.cm _) rfl rfl ?_
          refine w_iload_n (Ev.cm _) rfl rfl ?_
          obtain ⟨b10, q⟩ := ois q
          refine w_iast (Ev.cm _) rfl (Nat.le_of_ble_eq_true rfl) rfl (show vp_in (((I9 331 12) + 1) + ((3 : Int32) * (I1 334 ((I1 331 12).toNatClampNeg)))) 2724 from vpI 2724 (by decide) b10.1 b10.2) ?_
          refine w_aload_n (Ev.cm _) rfl rfl ?_
          refine w_iload_n (Ev.cm _) rfl rfl ?_
          refine w_iload_n (Ev.cm _) rfl rfl ?_
          obtain ⟨⟨r11, I11, L11⟩, e11, q⟩ := obs q
          dsimp only at q
          refine w_cvirt (o := 331) (as := [.int r1, .int (((I9 331 12) + 1) + ((3 : Int32) * (I1 334 ((I1 331 12).toNatClampNeg))))]) (st := []) (Ev.cm _) rfl rfl rfl (Nat.le_of_ble_eq_true rfl) (Nat.le_of_ble_eq_true rfl) rfl (Nat.le_of_ble_eq_true rfl) (eo_M_body (g := ?_) e11)
          show Wp _ _ _ _ _ _ _ 98 [(0, .ref 331), (1, .int r1), (2, .int (I1 334 ((I1 331 12).toNatClampNeg))), (3, .int (((I9 331 12) + 1) + ((3 : Int32) * (I1 334 ((I1 331 12).toNatClampNeg)))))] [.int r11] (HS I11 L11 X)
          refine w_istore (ls2 := [(0, .ref 331), (1, .int r1), (2, .int (I1 334 ((I1 331 12).toNatClampNeg))), (3, .int (((I9 331 12) + 1) + ((3 : Int32) * (I1 334 ((I1 331 12).toNatClampNeg))))), (4, .int r11)]) (Ev.cm _) rfl rfl ?_
          refine w_iload (Ev.cm _) rfl rfl ?_
          refine w_if_eq (Ev.cm _) rfl (fun c7 => ?_) (fun c7 => ?_)
          · have c7 : r11 = 0 := c7
            rw [if_pos c7] at q
            refine w_aload_n (Ev.cm _) rfl rfl ?_
            refine w_getR (q := 334) (Ev.cm _) rfl (Nat.le_of_ble_eq_true rfl) rfl rfl ?_
            refine w_aload_n (Ev.cm _) rfl rfl ?_
            refine w_getI (Ev.cm _) rfl (Nat.le_of_ble_eq_true rfl) rfl ?_
            refine w_dup2 (Ev.cm _) rfl rfl rfl ?_
            obtain ⟨b12, q⟩ := ois q
            refine w_iald (Ev.cm _) rfl (Nat.le_of_ble_eq_true rfl) rfl (show vp_in (I11 331 12) 2724 from vpI 2724 (by decide) b12.1 b12.2) ?_
            refine w_iconst (Ev.cm _) rfl ?_
            refine w_iadd (Ev.cm _) rfl ?_
            obtain ⟨b13, q⟩ := ois q
            refine w_iast (Ev.cm _) rfl (Nat.le_of_ble_eq_true rfl) rfl (show vp_in (I11 331 12) 2724 from vpI 2724 (by decide) b13.1 b13.2) ?_
            refine w_aload_n (Ev.cm _) rfl rfl ?_
            refine w_getI (Ev.cm _) rfl (Nat.le_of_ble_eq_true rfl) rfl ?_
            refine w_bipush (Ev.cm _) rfl ?_
            refine w_icmp_eq (Ev.cm _) rfl (fun c8 => ?_) (fun c8 => ?_)
            · have c8 : I11 331 9 = 59 := c8
              rw [if_pos c8] at q
              refine w_aload_n (Ev.cm _) rfl rfl ?_
              obtain ⟨⟨r14, I14, L14⟩, e14, q⟩ := obs q
              dsimp only at q
              refine w_cvirt (o := 331) (as := []) (st := []) (Ev.cm _) rfl rfl rfl (Nat.le_of_ble_eq_true rfl) (Nat.le_of_ble_eq_true rfl) rfl (Nat.le_of_ble_eq_true rfl) (eo_M_nextToken (g := ?_) e14)
              show Wp _ _ _ _ _ _ _ 136 [(0, .ref 331), (1, .int r1), (2, .int (I1 334 ((I1 331 12).toNatClampNeg))), (3, .int (((I9 331 12) + 1) + ((3 : Int32) * (I1 334 ((I1 331 12).toNatClampNeg))))), (4, .int r11)] [] (HS I14 L14 X)
              refine w_iconst (Ev.cm _) rfl ?_
              refine w_ireturn (Ev.cm _) rfl trivial rf0 ?_
              cases q
              exact g
            · have c8 : ¬ (I11 331 9 = 59) := c8
              rw [if_neg c8] at q
              refine w_iconst (Ev.cm _) rfl ?_
              refine w_ireturn (Ev.cm _) rfl trivial rf0 ?_
              cases q
              exact g
          · have c7 : ¬ (r11 = 0) := c7
            rw [if_neg c7] at q
            refine w_iload (Ev.cm _) rfl rfl ?_
            refine w_ireturn (Ev.cm _) rfl trivial rf0 ?_
            cases q
            exact g
      · have c3 : I1 334 ((I1 331 12).toNatClampNeg) = 24 := c3
        rw [if_pos c3] at q
        refine w_bipush (Ev.cm _) rfl ?_
        refine w_ireturn (Ev.cm _) rfl trivial rf0 ?_
        cases q
        exact g
    · have c2 : ¬ (1 < r1) := c2
      rw [if_neg c2] at q
      refine w_aload_n (Ev.cm _) rfl rfl ?_
      refine w_getI (Ev.cm _) rfl (Nat.le_of_ble_eq_true rfl) rfl ?_
      refine w_iload_n (Ev.cm _) rfl rfl ?_
      obtain ⟨⟨r15, I15, L15⟩, e15, q⟩ := obs q
      dsimp only at q
      refine w_cstat (as := [.int (I1 331 19), .int r1]) (st := []) (Ev.cm _) rfl rfl rfl (Nat.le_of_ble_eq_true rfl) (Nat.le_of_ble_eq_true rfl) (eo_M_has (g := ?_) e15)
      show Wp _ _ _ _ _ _ _ 24 [(0, .ref 331), (1, .int r1)] [.int r15] (HS I15 L15 X)
      refine w_if_eq (Ev.cm _) rfl (fun c9 => ?_) (fun c9 => ?_)
      · have c9 : r15 = 0 := c9
        rw [if_pos c9] at q
        refine w_aload_n (Ev.cm _) rfl rfl ?_
        refine w_getR (q := 334) (Ev.cm _) rfl (Nat.le_of_ble_eq_true rfl) rfl rfl ?_
        refine w_aload_n (Ev.cm _) rfl rfl ?_
        refine w_getI (Ev.cm _) rfl (Nat.le_of_ble_eq_true rfl) rfl ?_
        obtain ⟨b16, q⟩ := ois q
        refine w_iald (Ev.cm _) rfl (Nat.le_of_ble_eq_true rfl) rfl (show vp_in (I15 331 12) 2724 from vpI 2724 (by decide) b16.1 b16.2) ?_
        refine w_istore_n (ls2 := [(0, .ref 331), (1, .int r1), (2, .int (I15 334 ((I15 331 12).toNatClampNeg)))]) (Ev.cm _) rfl rfl ?_
        refine w_iload_n (Ev.cm _) rfl rfl ?_
        refine w_bipush (Ev.cm _) rfl ?_
        refine w_icmp_ne (Ev.cm _) rfl (fun c10 => ?_) (fun c10 => ?_)
        · have c10 : ¬ (I15 334 ((I15 331 12).toNatClampNeg) = 24) := c10
          rw [if_neg c10] at q
          refine w_iload_n (Ev.cm _) rfl rfl ?_
          refine w_iconst (Ev.cm _) rfl ?_
          refine w_icmp_gt (Ev.cm _) rfl (fun c11 => ?_) (fun c11 => ?_)
          · have c11 : 1 < r1 := c11
            rw [if_pos c11] at q
            refine w_aload_n (Ev.cm _) rfl rfl ?_
            refine w_iload_n (Ev.cm _) rfl rfl ?_
            refine w_putI (Ev.cm _) rfl (Nat.le_of_ble_eq_true rfl) rfl ?_
            refine w_aload_n (Ev.cm _) rfl rfl ?_
            obtain ⟨⟨r17, I17, L17⟩, e17, q⟩ := obs q
            dsimp only at q
            refine w_cvirt (o := 331) (as := []) (st := []) (Ev.cm _) rfl rfl rfl (Nat.le_of_ble_eq_true rfl) (Nat.le_of_ble_eq_true rfl) rfl (Nat.le_of_ble_eq_true rfl) (eo_M_nextToken (g := ?_) e17)
            show Wp _ _ _ _ _ _ _ 74 [(0, .ref 331), (1, .int r1), (2, .int (I15 334 ((I15 331 12).toNatClampNeg)))] [] (HS I17 L17 X)
            refine w_aload_n (Ev.cm _) rfl rfl ?_
            refine w_getI (Ev.cm _) rfl (Nat.le_of_ble_eq_true rfl) rfl ?_
            refine w_iconst (Ev.cm _) rfl ?_
            refine w_iadd (Ev.cm _) rfl ?_
            refine w_iconst (Ev.cm _) rfl ?_
            refine w_iload_n (Ev.cm _) rfl rfl ?_
            refine w_imul (Ev.cm _) rfl ?_
            refine w_iadd (Ev.cm _) rfl ?_
            refine w_istore_n (ls2 := [(0, .ref 331), (1, .int r1), (2, .int (I15 334 ((I15 331 12).toNatClampNeg))), (3, .int (((I17 331 12) + 1) + ((3 : Int32) * (I15 334 ((I15 331 12).toNatClampNeg)))))]) (Ev.cm _) rfl rfl ?_
            refine w_aload_n (Ev.cm _) rfl rfl ?_
            refine w_getR (q := 334) (Ev.cm _) rfl (Nat.le_of_ble_eq_true rfl) rfl rfl ?_
            refine w_iload_n (Ev.cm _) rfl rfl ?_
            refine w_iload_n (Ev.cm _) rfl rfl ?_
            obtain ⟨b18, q⟩ := ois q
            refine w_iast (Ev.cm _) rfl (Nat.le_of_ble_eq_true rfl) rfl (show vp_in (((I17 331 12) + 1) + ((3 : Int32) * (I15 334 ((I15 331 12).toNatClampNeg)))) 2724 from vpI 2724 (by decide) b18.1 b18.2) ?_
            refine w_aload_n (Ev.cm _) rfl rfl ?_
            refine w_iload_n (Ev.cm _) rfl rfl ?_
            refine w_iload_n (Ev.cm _) rfl rfl ?_
            obtain ⟨⟨r19, I19, L19⟩, e19, q⟩ := obs q
            dsimp only at q
            refine w_cvirt (o := 331) (as := [.int r1, .int (((I17 331 12) + 1) + ((3 : Int32) * (I15 334 ((I15 331 12).toNatClampNeg))))]) (st := []) (Ev.cm _) rfl rfl rfl (Nat.le_of_ble_eq_true rfl) (Nat.le_of_ble_eq_true rfl) rfl (Nat.le_of_ble_eq_true rfl) (eo_M_body (g := ?_) e19)
            show Wp _ _ _ _ _ _ _ 98 [(0, .ref 331), (1, .int r1), (2, .int (I15 334 ((I15 331 12).toNatClampNeg))), (3, .int (((I17 331 12) + 1) + ((3 : Int32) * (I15 334 ((I15 331 12).toNatClampNeg)))))] [.int r19] (HS I19 L19 X)
            refine w_istore (ls2 := [(0, .ref 331), (1, .int r1), (2, .int (I15 334 ((I15 331 12).toNatClampNeg))), (3, .int (((I17 331 12) + 1) + ((3 : Int32) * (I15 334 ((I15 331 12).toNatClampNeg))))), (4, .int r19)]) (Ev.cm _) rfl rfl ?_
            refine w_iload (Ev.cm _) rfl rfl ?_
            refine w_if_eq (Ev.cm _) rfl (fun c12 => ?_) (fun c12 => ?_)
            · have c12 : r19 = 0 := c12
              rw [if_pos c12] at q
              refine w_aload_n (Ev.cm _) rfl rfl ?_
              refine w_getR (q := 334) (Ev.cm _) rfl (Nat.le_of_ble_eq_true rfl) rfl rfl ?_
              refine w_aload_n (Ev.cm _) rfl rfl ?_
              refine w_getI (Ev.cm _) rfl (Nat.le_of_ble_eq_true rfl) rfl ?_
              refine w_dup2 (Ev.cm _) rfl rfl rfl ?_
              obtain ⟨b20, q⟩ := ois q
              refine w_iald (Ev.cm _) rfl (Nat.le_of_ble_eq_true rfl) rfl (show vp_in (I19 331 12) 2724 from vpI 2724 (by decide) b20.1 b20.2) ?_
              refine w_iconst (Ev.cm _) rfl ?_
              refine w_iadd (Ev.cm _) rfl ?_
              obtain ⟨b21, q⟩ := ois q
              refine w_iast (Ev.cm _) rfl (Nat.le_of_ble_eq_true rfl) rfl (show vp_in (I19 331 12) 2724 from vpI 2724 (by decide) b21.1 b21.2) ?_
              refine w_aload_n (Ev.cm _) rfl rfl ?_
              refine w_getI (Ev.cm _) rfl (Nat.le_of_ble_eq_true rfl) rfl ?_
              refine w_bipush (Ev.cm _) rfl ?_
              refine w_icmp_eq (Ev.cm _) rfl (fun c13 => ?_) (fun c13 => ?_)
              · have c13 : I19 331 9 = 59 := c13
                rw [if_pos c13] at q
                refine w_aload_n (Ev.cm _) rfl rfl ?_
                obtain ⟨⟨r22, I22, L22⟩, e22, q⟩ := obs q
                dsimp only at q
                refine w_cvirt (o := 331) (as := []) (st := []) (Ev.cm _) rfl rfl rfl (Nat.le_of_ble_eq_true rfl) (Nat.le_of_ble_eq_true rfl) rfl (Nat.le_of_ble_eq_true rfl) (eo_M_nextToken (g := ?_) e22)
                show Wp _ _ _ _ _ _ _ 136 [(0, .ref 331), (1, .int r1), (2, .int (I15 334 ((I15 331 12).toNatClampNeg))), (3, .int (((I17 331 12) + 1) + ((3 : Int32) * (I15 334 ((I15 331 12).toNatClampNeg))))), (4, .int r19)] [] (HS I22 L22 X)
                refine w_iconst (Ev.cm _) rfl ?_
                refine w_ireturn (Ev.cm _) rfl trivial rf0 ?_
                cases q
                exact g
              · have c13 : ¬ (I19 331 9 = 59) := c13
                rw [if_neg c13] at q
                refine w_iconst (Ev.cm _) rfl ?_
                refine w_ireturn (Ev.cm _) rfl trivial rf0 ?_
                cases q
                exact g
            · have c12 : ¬ (r19 = 0) := c12
              rw [if_neg c12] at q
              refine w_iload (Ev.cm _) rfl rfl ?_
              refine w_ireturn (Ev.cm _) rfl trivial rf0 ?_
              cases q
              exact g
          · have c11 : ¬ (1 < r1) := c11
            rw [if_neg c11] at q
            refine w_aload_n (Ev.cm _) rfl rfl ?_
            refine w_dup (Ev.cm _) rfl rfl ?_
            refine w_getI (Ev.cm _) rfl (Nat.le_of_ble_eq_true rfl) rfl ?_
            refine w_iconst (Ev.cm _) rfl ?_
            refine w_iload_n (Ev.cm _) rfl rfl ?_
            refine w_ishl (Ev.cm _) rfl ?_
            refine w_ior (Ev.cm _) rfl ?_
            refine w_putI (Ev.cm _) rfl (Nat.le_of_ble_eq_true rfl) rfl ?_
            refine w_aload_n (Ev.cm _) rfl rfl ?_
            refine w_iload_n (Ev.cm _) rfl rfl ?_
            refine w_putI (Ev.cm _) rfl (Nat.le_of_ble_eq_true rfl) rfl ?_
            refine w_aload_n (Ev.cm _) rfl rfl ?_
            obtain ⟨⟨r23, I23, L23⟩, e23, q⟩ := obs q
            dsimp only at q
            refine w_cvirt (o := 331) (as := []) (st := []) (Ev.cm _) rfl rfl rfl (Nat.le_of_ble_eq_true rfl) (Nat.le_of_ble_eq_true rfl) rfl (Nat.le_of_ble_eq_true rfl) (eo_M_nextToken (g := ?_) e23)
            show Wp _ _ _ _ _ _ _ 74 [(0, .ref 331), (1, .int r1), (2, .int (I15 334 ((I15 331 12).toNatClampNeg)))] [] (HS I23 L23 X)
            refine w_aload_n (Ev.cm _) rfl rfl ?_
            refine w_getI (Ev.cm _) rfl (Nat.le_of_ble_eq_true rfl) rfl ?_
            refine w_iconst (Ev.cm _) rfl ?_
            refine w_iadd (Ev.cm _) rfl ?_
            refine w_iconst (Ev.cm _) rfl ?_
            refine w_iload_n (Ev.cm _) rfl rfl ?_
            refine w_imul (Ev.cm _) rfl ?_
            refine w_iadd (Ev.cm _) rfl ?_
            refine w_istore_n (ls2 := [(0, .ref 331), (1, .int r1), (2, .int (I15 334 ((I15 331 12).toNatClampNeg))), (3, .int (((I23 331 12) + 1) + ((3 : Int32) * (I15 334 ((I15 331 12).toNatClampNeg)))))]) (Ev.cm _) rfl rfl ?_
            refine w_aload_n (Ev.cm _) rfl rfl ?_
            refine w_getR (q := 334) (Ev.cm _) rfl (Nat.le_of_ble_eq_true rfl) rfl rfl ?_
            refine w_iload_n (Ev.cm _) rfl rfl ?_
            refine w_iload_n (Ev.cm _) rfl rfl ?_
            obtain ⟨b24, q⟩ := ois q
            refine w_iast (Ev.cm _) rfl (Nat.le_of_ble_eq_true rfl) rfl (show vp_in (((I23 331 12) + 1) + ((3 : Int32) * (I15 334 ((I15 331 12).toNatClampNeg)))) 2724 from vpI 2724 (by decide) b24.1 b24.2) ?_
            refine w_aload_n (Ev.cm _) rfl rfl ?_
            refine w_iload_n (Ev.cm _) rfl rfl ?_
            refine w_iload_n (Ev.cm _) rfl rfl ?_
            obtain ⟨⟨r25, I25, L25⟩, e25, q⟩ := obs q
            dsimp only at q
            refine w_cvirt (o := 331) (as := [.int r1, .int (((I23 331 12) + 1) + ((3 : Int32) * (I15 334 ((I15 331 12).toNatClampNeg))))]) (st := []) (Ev.cm _) rfl rfl rfl (Nat.le_of_ble_eq_true rfl) (Nat.le_of_ble_eq_true rfl) rfl (Nat.le_of_ble_eq_true rfl) (eo_M_body (g := ?_) e25)
            show Wp _ _ _ _ _ _ _ 98 [(0, .ref 331), (1, .int r1), (2, .int (I15 334 ((I15 331 12).toNatClampNeg))), (3, .int (((I23 331 12) + 1) + ((3 : Int32) * (I15 334 ((I15 331 12).toNatClampNeg)))))] [.int r25] (HS I25 L25 X)
            refine w_istore (ls2 := [(0, .ref 331), (1, .int r1), (2, .int (I15 334 ((I15 331 12).toNatClampNeg))), (3, .int (((I23 331 12) + 1) + ((3 : Int32) * (I15 334 ((I15 331 12).toNatClampNeg))))), (4, .int r25)]) (Ev.cm _) rfl rfl ?_
            refine w_iload (Ev.cm _) rfl rfl ?_
            refine w_if_eq (Ev.cm _) rfl (fun c14 => ?_) (fun c14 => ?_)
            · have c14 : r25 = 0 := c14
              rw [if_pos c14] at q
              refine w_aload_n (Ev.cm _) rfl rfl ?_
              refine w_getR (q := 334) (Ev.cm _) rfl (Nat.le_of_ble_eq_true rfl) rfl rfl ?_
              refine w_aload_n (Ev.cm _) rfl rfl ?_
              refine w_getI (Ev.cm _) rfl (Nat.le_of_ble_eq_true rfl) rfl ?_
              refine w_dup2 (Ev.cm _) rfl rfl rfl ?_
              obtain ⟨b26, q⟩ := ois q
              refine w_iald (Ev.cm _) rfl (Nat.le_of_ble_eq_true rfl) rfl (show vp_in (I25 331 12) 2724 from vpI 2724 (by decide) b26.1 b26.2) ?_
              refine w_iconst (Ev.cm _) rfl ?_
              refine w_iadd (Ev.cm _) rfl ?_
              obtain ⟨b27, q⟩ := ois q
              refine w_iast (Ev.cm _) rfl (Nat.le_of_ble_eq_true rfl) rfl (show vp_in (I25 331 12) 2724 from vpI 2724 (by decide) b27.1 b27.2) ?_
              refine w_aload_n (Ev.cm _) rfl rfl ?_
              refine w_getI (Ev.cm _) rfl (Nat.le_of_ble_eq_true rfl) rfl ?_
              refine w_bipush (Ev.cm _) rfl ?_
              refine w_icmp_eq (Ev.cm _) rfl (fun c15 => ?_) (fun c15 => ?_)
              · have c15 : I25 331 9 = 59 := c15
                rw [if_pos c15] at q
                refine w_aload_n (Ev.cm _) rfl rfl ?_
                obtain ⟨⟨r28, I28, L28⟩, e28, q⟩ := obs q
                dsimp only at q
                refine w_cvirt (o := 331) (as := []) (st := []) (Ev.cm _) rfl rfl rfl (Nat.le_of_ble_eq_true rfl) (Nat.le_of_ble_eq_true rfl) rfl (Nat.le_of_ble_eq_true rfl) (eo_M_nextToken (g := ?_) e28)
                show Wp _ _ _ _ _ _ _ 136 [(0, .ref 331), (1, .int r1), (2, .int (I15 334 ((I15 331 12).toNatClampNeg))), (3, .int (((I23 331 12) + 1) + ((3 : Int32) * (I15 334 ((I15 331 12).toNatClampNeg))))), (4, .int r25)] [] (HS I28 L28 X)
                refine w_iconst (Ev.cm _) rfl ?_
                refine w_ireturn (Ev.cm _) rfl trivial rf0 ?_
                cases q
                exact g
              · have c15 : ¬ (I25 331 9 = 59) := c15
                rw [if_neg c15] at q
                refine w_iconst (Ev.cm _) rfl ?_
                refine w_ireturn (Ev.cm _) rfl trivial rf0 ?_
                cases q
                exact g
            · have c14 : ¬ (r25 = 0) := c14
              rw [if_neg c14] at q
              refine w_iload (Ev.cm _) rfl rfl ?_
              refine w_ireturn (Ev.cm _) rfl trivial rf0 ?_
              cases q
              exact g
        · have c10 : I15 334 ((I15 331 12).toNatClampNeg) = 24 := c10
          rw [if_pos c10] at q
          refine w_bipush (Ev.cm _) rfl ?_
          refine w_ireturn (Ev.cm _) rfl trivial rf0 ?_
          cases q
          exact g
      · have c9 : ¬ (r15 = 0) := c9
        rw [if_neg c9] at q
        refine w_iconst (Ev.cm _) rfl ?_
        refine w_ireturn (Ev.cm _) rfl trivial rf0 ?_
        cases q
        exact g
  · have c1 : ¬ (0 ≤ r1) := c1
    rw [if_neg c1] at q
    refine w_iconst (Ev.cm _) rfl ?_
    refine w_ireturn (Ev.cm _) rfl trivial rf0 ?_
    cases q
    exact g
def LO_M_readText_43 (fu : Nat) : Nat → (Nat → Nat → Int32) → (Nat → Nat → Int64) → Option (Int32 × (Nat → Nat → Int32) × (Nat → Nat → Int64))
  | 0, _, _ => none
  | n + 1, I, L => if I 331 9 = 0 then (some (0, I, L)) else ((FO_M_clause fu  I L).bind (fun u1 => let r1 := u1.1; let I1 := u1.2.1; let L1 := u1.2.2; if r1 = 0 then (LO_M_readText_43 fu n  I1 L1) else (some (r1, I1, L1))))
set_option maxHeartbeats 20000000 in
set_option maxRecDepth 20000 in
theorem lo_M_readText_43 {d fu n0 s0 : Nat} {X : Nat × (Nat → Int32)} {Q : PQ} {res : Int32 × (Nat → Nat → Int32) × (Nat → Nat → Int64)}  (g : Q (some (.int res.1)) (HS res.2.1 res.2.2 X)) : ∀ (n : Nat) (I : Nat → Nat → Int32) (L : Nat → Nat → Int64), LO_M_readText_43 fu n  I L = some res → Wp (Ev (d + 11)) cd_M_readText (0, 0) (some .int) n0 s0 Q 43 [(0, .ref 331)] [] (HS I L X) := by
  intro n
  induction n with
  | zero => intro  _ _ q; cases q
  | succ n ih =>
    intro  I L q
    unfold LO_M_readText_43 at q
    refine w_aload_n (Ev.cm _) rfl rfl ?_
    refine w_getI (Ev.cm _) rfl (Nat.le_of_ble_eq_true rfl) rfl ?_
    refine w_if_eq (Ev.cm _) rfl (fun c1 => ?_) (fun c1 => ?_)
    · have c1 : I 331 9 = 0 := c1
      rw [if_pos c1] at q
      refine w_iconst (Ev.cm _) rfl ?_
      refine w_ireturn (Ev.cm _) rfl trivial rf0 ?_
      cases q
      exact g
    · have c1 : ¬ (I 331 9 = 0) := c1
      rw [if_neg c1] at q
      refine w_aload_n (Ev.cm _) rfl rfl ?_
      obtain ⟨⟨r1, I1, L1⟩, e1, q⟩ := obs q
      dsimp only at q
      refine w_cvirt (o := 331) (as := []) (st := []) (Ev.cm _) rfl rfl rfl (Nat.le_of_ble_eq_true rfl) (Nat.le_of_ble_eq_true rfl) rfl (Nat.le_of_ble_eq_true rfl) (eo_M_clause (g := ?_) e1)
      show Wp _ _ _ _ _ _ _ 54 [(0, .ref 331)] [.int r1] (HS I1 L1 X)
      refine w_istore_n (ls2 := [(0, .ref 331), (1, .int r1)]) (Ev.cm _) rfl rfl ?_
      refine w_iload_n (Ev.cm _) rfl rfl ?_
      refine w_if_eq (Ev.cm _) rfl (fun c2 => ?_) (fun c2 => ?_)
      · have c2 : r1 = 0 := c2
        rw [if_pos c2] at q
        refine w_goto (Ev.cm _) rfl ?_
        show Wp _ _ _ _ _ _ _ 43 [(0, .ref 331), (1, .int r1)] [] (HS I1 L1 X)
        refine Wp.sub [0] (ls2 := [(0, .ref 331)]) rfl ?_
        exact ih _ _ q
      · have c2 : ¬ (r1 = 0) := c2
        rw [if_neg c2] at q
        refine w_iload_n (Ev.cm _) rfl rfl ?_
        refine w_ireturn (Ev.cm _) rfl trivial rf0 ?_
        cases q
        exact g
def FO_M_readText (fu : Nat) (I : Nat → Nat → Int32) (L : Nat → Nat → Int64) : Option (Int32 × (Nat → Nat → Int32) × (Nat → Nat → Int64)) := if 0 ≤ (681 : Int32) * (I 332 1) ∧ (681 : Int32) * (I 332 1) < 2724 then ((FO_M_nextToken fu  (sI (sI (sI (sI (sI I 331 12 ((681 : Int32) * (I 332 1))) 334 (((681 : Int32) * (I 332 1)).toNatClampNeg) 0) 331 13 0) 331 19 0) 331 7 0) L).bind (fun u2 => let r2 := u2.1; let I2 := u2.2.1; let L2 := u2.2.2; LO_M_readText_43 fu fu  I2 L2)) else none
set_option maxHeartbeats 20000000 in
set_option maxRecDepth 20000 in
theorem eo_M_readText {d fu : Nat} {I : Nat → Nat → Int32} {L : Nat → Nat → Int64} {X : Nat × (Nat → Int32)} {Q : PQ} {res : Int32 × (Nat → Nat → Int32) × (Nat → Nat → Int64)}  (g : Q (some (.int res.1)) (HS res.2.1 res.2.2 X)) (q : FO_M_readText fu  I L = some res) : Ev (d + 12) m_M_readText [.ref 331] (HS I L X) Q := by
  unfold FO_M_readText at q
  refine ev_start (d := d + 11) rfl rfl rfl (Nat.le_of_ble_eq_true rfl) ?_
  show Wp (Ev (d + 11)) cd_M_readText (0, 0) (some .int) _ _ Q 0 [(0, .ref 331)] [] (HS I L X)
  refine w_aload_n (Ev.cm _) rfl rfl ?_
  refine w_sipush (Ev.cm _) rfl ?_
  refine w_aload_n (Ev.cm _) rfl rfl ?_
  refine w_getR (q := 332) (Ev.cm _) rfl (Nat.le_of_ble_eq_true rfl) rfl rfl ?_
  refine w_iconst (Ev.cm _) rfl ?_
  refine w_iald (Ev.cm _) rfl (Nat.le_of_ble_eq_true rfl) rfl (show vp_in 1 1541 from vpI 1541 (by decide) (by decide) (by decide)) ?_
  refine w_imul (Ev.cm _) rfl ?_
  refine w_putI (Ev.cm _) rfl (Nat.le_of_ble_eq_true rfl) rfl ?_
  refine w_aload_n (Ev.cm _) rfl rfl ?_
  refine w_getR (q := 334) (Ev.cm _) rfl (Nat.le_of_ble_eq_true rfl) rfl rfl ?_
  refine w_aload_n (Ev.cm _) rfl rfl ?_
  refine w_getI (Ev.cm _) rfl (Nat.le_of_ble_eq_true rfl) rfl ?_
  refine w_iconst (Ev.cm _) rfl ?_
  obtain ⟨b1, q⟩ := ois q
  refine w_iast (Ev.cm _) rfl (Nat.le_of_ble_eq_true rfl) rfl (show vp_in ((681 : Int32) * (I 332 1)) 2724 from vpI 2724 (by decide) b1.1 b1.2) ?_
  refine w_aload_n (Ev.cm _) rfl rfl ?_
  refine w_iconst (Ev.cm _) rfl ?_
  refine w_putI (Ev.cm _) rfl (Nat.le_of_ble_eq_true rfl) rfl ?_
  refine w_aload_n (Ev.cm _) rfl rfl ?_
  refine w_iconst (Ev.cm _) rfl ?_
  refine w_putI (Ev.cm _) rfl (Nat.le_of_ble_eq_true rfl) rfl ?_
  refine w_aload_n (Ev.cm _) rfl rfl ?_
  refine w_iconst (Ev.cm _) rfl ?_
  refine w_putI (Ev.cm _) rfl (Nat.le_of_ble_eq_true rfl) rfl ?_
  refine w_aload_n (Ev.cm _) rfl rfl ?_
  obtain ⟨⟨r2, I2, L2⟩, e2, q⟩ := obs q
  dsimp only at q
  refine w_cvirt (o := 331) (as := []) (st := []) (Ev.cm _) rfl rfl rfl (Nat.le_of_ble_eq_true rfl) (Nat.le_of_ble_eq_true rfl) rfl (Nat.le_of_ble_eq_true rfl) (eo_M_nextToken (g := ?_) e2)
  show Wp _ _ _ _ _ _ _ 43 [(0, .ref 331)] [] (HS I2 L2 X)
  show Wp _ _ _ _ _ _ _ 43 [(0, .ref 331)] [] (HS I2 L2 X)
  refine Wp.sub [0] (ls2 := [(0, .ref 331)]) rfl ?_
  exact lo_M_readText_43 g fu _ _ q
def FO_M_text (fu : Nat) (I : Nat → Nat → Int32) (L : Nat → Nat → Int64) : Option (Int32 × (Nat → Nat → Int32) × (Nat → Nat → Int64)) := if I 332 1 = 4 then (some ((-1), I, L)) else ((FO_M_readText fu  I L).bind (fun u1 => let r1 := u1.1; let I1 := u1.2.1; let L1 := u1.2.2; if r1 = 0 then (if r1 = 0 then (some (((I1 332 1) + 1) - 1, sI (sI (sI (sI I1 331 5 r1) 331 6 (-1)) 331 4 0) 332 1 ((I1 332 1) + 1), L1)) else (some ((-1), sI (sI (sI I1 331 5 r1) 331 6 (-1)) 331 4 0, L1))) else (if r1 = 0 then (some (((I1 332 1) + 1) - 1, sI (sI (sI (sI I1 331 5 r1) 331 6 (I1 331 8)) 331 4 0) 332 1 ((I1 332 1) + 1), L1)) else (some ((-1), sI (sI (sI I1 331 5 r1) 331 6 (I1 331 8)) 331 4 0, L1)))))
set_option maxHeartbeats 20000000 in
set_option maxRecDepth 20000 in
theorem eo_M_text {d fu : Nat} {I : Nat → Nat → Int32} {L : Nat → Nat → Int64} {X : Nat × (Nat → Int32)} {Q : PQ} {res : Int32 × (Nat → Nat → Int32) × (Nat → Nat → Int64)}  (g : Q (some (.int res.1)) (HS res.2.1 res.2.2 X)) (q : FO_M_text fu  I L = some res) : Ev (d + 13) m_M_text [.ref 331] (HS I L X) Q := by
  unfold FO_M_text at q
  refine ev_start (d := d + 12) rfl rfl rfl (Nat.le_of_ble_eq_true rfl) ?_
  show Wp (Ev (d + 12)) cd_M_text (0, 0) (some .int) _ _ Q 0 [(0, .ref 331)] [] (HS I L X)
  refine w_aload_n (Ev.cm _) rfl rfl ?_
  refine w_getR (q := 332) (Ev.cm _) rfl (Nat.le_of_ble_eq_true rfl) rfl rfl ?_
  refine w_iconst (Ev.cm _) rfl ?_
  refine w_iald (Ev.cm _) rfl (Nat.le_of_ble_eq_true rfl) rfl (show vp_in 1 1541 from vpI 1541 (by decide) (by decide) (by decide)) ?_
  refine w_iconst (Ev.cm _) rfl ?_
  refine w_icmp_ne (Ev.cm _) rfl (fun c1 => ?_) (fun c1 => ?_)
  · have c1 : ¬ (I 332 1 = 4) := c1
    rw [if_neg c1] at q
    refine w_aload_n (Ev.cm _) rfl rfl ?_
    refine w_aload_n (Ev.cm _) rfl rfl ?_
    obtain ⟨⟨r1, I1, L1⟩, e1, q⟩ := obs q
    dsimp only at q
    refine w_cvirt (o := 331) (as := []) (st := [.ref 331]) (Ev.cm _) rfl rfl rfl (Nat.le_of_ble_eq_true rfl) (Nat.le_of_ble_eq_true rfl) rfl (Nat.le_of_ble_eq_true rfl) (eo_M_readText (g := ?_) e1)
    show Wp _ _ _ _ _ _ _ 17 [(0, .ref 331)] [.int r1, .ref 331] (HS I1 L1 X)
    refine w_putI (Ev.cm _) rfl (Nat.le_of_ble_eq_true rfl) rfl ?_
    refine w_aload_n (Ev.cm _) rfl rfl ?_
    refine w_aload_n (Ev.cm _) rfl rfl ?_
    refine w_getI (Ev.cm _) rfl (Nat.le_of_ble_eq_true rfl) rfl ?_
    refine w_if_ne (Ev.cm _) rfl (fun c2 => ?_) (fun c2 => ?_)
    · have c2 : ¬ (r1 = 0) := c2
      rw [if_neg c2] at q
      refine w_aload_n (Ev.cm _) rfl rfl ?_
      refine w_getI (Ev.cm _) rfl (Nat.le_of_ble_eq_true rfl) rfl ?_
      refine w_putI (Ev.cm _) rfl (Nat.le_of_ble_eq_true rfl) rfl ?_
      refine w_aload_n (Ev.cm _) rfl rfl ?_
      refine w_iconst (Ev.cm _) rfl ?_
      refine w_putI (Ev.cm _) rfl (Nat.le_of_ble_eq_true rfl) rfl ?_
      refine w_aload_n (Ev.cm _) rfl rfl ?_
      refine w_getI (Ev.cm _) rfl (Nat.le_of_ble_eq_true rfl) rfl ?_
      refine w_if_eq (Ev.cm _) rfl (fun c3 => ?_) (fun c3 => ?_)
      · have c3 : r1 = 0 := c3
        rw [if_pos c3] at q
        refine w_aload_n (Ev.cm _) rfl rfl ?_
        refine w_getR (q := 332) (Ev.cm _) rfl (Nat.le_of_ble_eq_true rfl) rfl rfl ?_
        refine w_iconst (Ev.cm _) rfl ?_
        refine w_dup2 (Ev.cm _) rfl rfl rfl ?_
        refine w_iald (Ev.cm _) rfl (Nat.le_of_ble_eq_true rfl) rfl (show vp_in 1 1541 from vpI 1541 (by decide) (by decide) (by decide)) ?_
        refine w_iconst (Ev.cm _) rfl ?_
        refine w_iadd (Ev.cm _) rfl ?_
        refine w_iast (Ev.cm _) rfl (Nat.le_of_ble_eq_true rfl) rfl (show vp_in 1 1541 from vpI 1541 (by decide) (by decide) (by decide)) ?_
        refine w_aload_n (Ev.cm _) rfl rfl ?_
        refine w_getR (q := 332) (Ev.cm _) rfl (Nat.le_of_ble_eq_true rfl) rfl rfl ?_
        refine w_iconst (Ev.cm _) rfl ?_
        refine w_iald (Ev.cm _) rfl (Nat.le_of_ble_eq_true rfl) rfl (show vp_in 1 1541 from vpI 1541 (by decide) (by decide) (by decide)) ?_
        refine w_iconst (Ev.cm _) rfl ?_
        refine w_isub (Ev.cm _) rfl ?_
        refine w_ireturn (Ev.cm _) rfl trivial rf0 ?_
        cases q
        exact g
      · have c3 : ¬ (r1 = 0) := c3
        rw [if_neg c3] at q
        refine w_iconst (Ev.cm _) rfl ?_
        refine w_ireturn (Ev.cm _) rfl trivial rf0 ?_
        cases q
        exact g
    · have c2 : r1 = 0 := c2
      rw [if_pos c2] at q
      refine w_iconst (Ev.cm _) rfl ?_
      refine w_goto (Ev.cm _) rfl ?_
      refine w_putI (Ev.cm _) rfl (Nat.le_of_ble_eq_true rfl) rfl ?_
      refine w_aload_n (Ev.cm _) rfl rfl ?_
      refine w_iconst (Ev.cm _) rfl ?_
      refine w_putI (Ev.cm _) rfl (Nat.le_of_ble_eq_true rfl) rfl ?_
      refine w_aload_n (Ev.cm _) rfl rfl ?_
      refine w_getI (Ev.cm _) rfl (Nat.le_of_ble_eq_true rfl) rfl ?_
      refine w_if_eq (Ev.cm _) rfl (fun c4 => ?_) (fun c4 => ?_)
      · have c4 : r1 = 0 := c4
        rw [if_pos c4] at q
        refine w_aload_n (Ev.cm _) rfl rfl ?_
        refine w_getR (q := 332) (Ev.cm _) rfl (Nat.le_of_ble_eq_true rfl) rfl rfl ?_
        refine w_iconst (Ev.cm _) rfl ?_
        refine w_dup2 (Ev.cm _) rfl rfl rfl ?_
        refine w_iald (Ev.cm _) rfl (Nat.le_of_ble_eq_true rfl) rfl (show vp_in 1 1541 from vpI 1541 (by decide) (by decide) (by decide)) ?_
        refine w_iconst (Ev.cm _) rfl ?_
        refine w_iadd (Ev.cm _) rfl ?_
        refine w_iast (Ev.cm _) rfl (Nat.le_of_ble_eq_true rfl) rfl (show vp_in 1 1541 from vpI 1541 (by decide) (by decide) (by decide)) ?_
        refine w_aload_n (Ev.cm _) rfl rfl ?_
        refine w_getR (q := 332) (Ev.cm _) rfl (Nat.le_of_ble_eq_true rfl) rfl rfl ?_
        refine w_iconst (Ev.cm _) rfl ?_
        refine w_iald (Ev.cm _) rfl (Nat.le_of_ble_eq_true rfl) rfl (show vp_in 1 1541 from vpI 1541 (by decide) (by decide) (by decide)) ?_
        refine w_iconst (Ev.cm _) rfl ?_
        refine w_isub (Ev.cm _) rfl ?_
        refine w_ireturn (Ev.cm _) rfl trivial rf0 ?_
        cases q
        exact g
      · have c4 : ¬ (r1 = 0) := c4
        rw [if_neg c4] at q
        refine w_iconst (Ev.cm _) rfl ?_
        refine w_ireturn (Ev.cm _) rfl trivial rf0 ?_
        cases q
        exact g
  · have c1 : I 332 1 = 4 := c1
    rw [if_pos c1] at q
    refine w_iconst (Ev.cm _) rfl ?_
    refine w_ireturn (Ev.cm _) rfl trivial rf0 ?_
    cases q
    exact g
def FO_M_drawnBy (fu : Nat) (p0 : Int32) (I : Nat → Nat → Int32) (L : Nat → Nat → Int64) : Option (Int32 × (Nat → Nat → Int32) × (Nat → Nat → Int64)) := if ¬ p0 = 0 then ((FO_M_anew fu  I L).bind (fun u2 => let r2 := u2.1; let I2 := u2.2.1; let L2 := u2.2.2; some (iR (I 332 8) p0, I2, L2))) else none
set_option maxHeartbeats 20000000 in
set_option maxRecDepth 20000 in
theorem eo_M_drawnBy {d fu : Nat} {p0 : Int32} {I : Nat → Nat → Int32} {L : Nat → Nat → Int64} {X : Nat × (Nat → Int32)} {Q : PQ} {res : Int32 × (Nat → Nat → Int32) × (Nat → Nat → Int64)}  (g : Q (some (.int res.1)) (HS res.2.1 res.2.2 X)) (q : FO_M_drawnBy fu p0 I L = some res) : Ev (d + 2) m_M_drawnBy [.ref 331, .int p0] (HS I L X) Q := by
  unfold FO_M_drawnBy at q
  refine ev_start (d := d + 1) rfl rfl rfl (Nat.le_of_ble_eq_true rfl) ?_
  show Wp (Ev (d + 1)) cd_M_drawnBy (0, 0) (some .int) _ _ Q 0 [(0, .ref 331), (1, .int p0)] [] (HS I L X)
  refine w_aload_n (Ev.cm _) rfl rfl ?_
  refine w_getR (q := 332) (Ev.cm _) rfl (Nat.le_of_ble_eq_true rfl) rfl rfl ?_
  refine w_bipush (Ev.cm _) rfl ?_
  refine w_iald (Ev.cm _) rfl (Nat.le_of_ble_eq_true rfl) rfl (show vp_in 8 1541 from vpI 1541 (by decide) (by decide) (by decide)) ?_
  refine w_iload_n (Ev.cm _) rfl rfl ?_
  obtain ⟨b1, q⟩ := ois q
  refine w_irem (Ev.cm _) rfl b1 ?_
  refine w_istore_n (ls2 := [(0, .ref 331), (1, .int p0), (2, .int (iR (I 332 8) p0))]) (Ev.cm _) rfl rfl ?_
  refine w_aload_n (Ev.cm _) rfl rfl ?_
  obtain ⟨⟨r2, I2, L2⟩, e2, q⟩ := obs q
  dsimp only at q
  refine w_cvirt (o := 331) (as := []) (st := []) (Ev.cm _) rfl rfl rfl (Nat.le_of_ble_eq_true rfl) (Nat.le_of_ble_eq_true rfl) rfl (Nat.le_of_ble_eq_true rfl) (eo_M_anew (g := ?_) e2)
  show Wp _ _ _ _ _ _ _ 14 [(0, .ref 331), (1, .int p0), (2, .int (iR (I 332 8) p0))] [] (HS I2 L2 X)
  refine w_iload_n (Ev.cm _) rfl rfl ?_
  refine w_ireturn (Ev.cm _) rfl trivial rf0 ?_
  cases q
  exact g
def LO_M_pass_15 (fu : Nat) : Nat → Int32 → (Nat → Nat → Int32) → (Nat → Nat → Int64) → Option (Unit × (Nat → Nat → Int32) × (Nat → Nat → Int64))
  | 0, _, _, _ => none
  | n + 1, x1, I, L => if I 332 0 ≤ x1 then (some ((), sI I 332 7 ((I 332 7) + 1), L)) else ((FO_M_drawnBy fu 4 I L).bind (fun u1 => let r1 := u1.1; let I1 := u1.2.1; let L1 := u1.2.2; (FO_M_treadBy fu x1 r1 I1 L1).bind (fun u2 => let r2 := u2.1; let I2 := u2.2.1; let L2 := u2.2.2; LO_M_pass_15 fu n (x1 + 1) I2 L2)))
set_option maxHeartbeats 20000000 in
set_option maxRecDepth 20000 in
theorem lo_M_pass_15 {d fu n0 s0 : Nat} {X : Nat × (Nat → Int32)} {Q : PQ} {res : Unit × (Nat → Nat → Int32) × (Nat → Nat → Int64)}  (g : Q none (HS res.2.1 res.2.2 X)) : ∀ (n : Nat) (x1 : Int32) (I : Nat → Nat → Int32) (L : Nat → Nat → Int64), LO_M_pass_15 fu n x1 I L = some res → Wp (Ev (d + 10)) cd_M_pass (0, 0) none n0 s0 Q 15 [(0, .ref 331), (1, .int x1)] [] (HS I L X) := by
  intro n
  induction n with
  | zero => intro _ _ _ q; cases q
  | succ n ih =>
    intro x1 I L q
    unfold LO_M_pass_15 at q
    refine w_iload_n (Ev.cm _) rfl rfl ?_
    refine w_aload_n (Ev.cm _) rfl rfl ?_
    refine w_getR (q := 332) (Ev.cm _) rfl (Nat.le_of_ble_eq_true rfl) rfl rfl ?_
    refine w_iconst (Ev.cm _) rfl ?_
    refine w_iald (Ev.cm _) rfl (Nat.le_of_ble_eq_true rfl) rfl (show vp_in 0 1541 from vpI 1541 (by decide) (by decide) (by decide)) ?_
    refine w_icmp_ge (Ev.cm _) rfl (fun c1 => ?_) (fun c1 => ?_)
    · have c1 : I 332 0 ≤ x1 := c1
      rw [if_pos c1] at q
      refine w_aload_n (Ev.cm _) rfl rfl ?_
      refine w_getR (q := 332) (Ev.cm _) rfl (Nat.le_of_ble_eq_true rfl) rfl rfl ?_
      refine w_bipush (Ev.cm _) rfl ?_
      refine w_dup2 (Ev.cm _) rfl rfl rfl ?_
      refine w_iald (Ev.cm _) rfl (Nat.le_of_ble_eq_true rfl) rfl (show vp_in 7 1541 from vpI 1541 (by decide) (by decide) (by decide)) ?_
      refine w_iconst (Ev.cm _) rfl ?_
      refine w_iadd (Ev.cm _) rfl ?_
      refine w_iast (Ev.cm _) rfl (Nat.le_of_ble_eq_true rfl) rfl (show vp_in 7 1541 from vpI 1541 (by decide) (by decide) (by decide)) ?_
      refine w_return (Ev.cm _) rfl rfl rf0 ?_
      cases q
      exact g
    · have c1 : ¬ (I 332 0 ≤ x1) := c1
      rw [if_neg c1] at q
      refine w_aload_n (Ev.cm _) rfl rfl ?_
      refine w_iload_n (Ev.cm _) rfl rfl ?_
      refine w_aload_n (Ev.cm _) rfl rfl ?_
      refine w_iconst (Ev.cm _) rfl ?_
      obtain ⟨⟨r1, I1, L1⟩, e1, q⟩ := obs q
      dsimp only at q
      refine w_cvirt (o := 331) (as := [.int 4]) (st := [.int x1, .ref 331]) (Ev.cm _) rfl rfl rfl (Nat.le_of_ble_eq_true rfl) (Nat.le_of_ble_eq_true rfl) rfl (Nat.le_of_ble_eq_true rfl) (eo_M_drawnBy (g := ?_) e1)
      show Wp _ _ _ _ _ _ _ 32 [(0, .ref 331), (1, .int x1)] [.int r1, .int x1, .ref 331] (HS I1 L1 X)
      obtain ⟨⟨r2, I2, L2⟩, e2, q⟩ := obs q
      dsimp only at q
      refine w_cvirt (o := 331) (as := [.int x1, .int r1]) (st := []) (Ev.cm _) rfl rfl rfl (Nat.le_of_ble_eq_true rfl) (Nat.le_of_ble_eq_true rfl) rfl (Nat.le_of_ble_eq_true rfl) (eo_M_treadBy (g := ?_) e2)
      show Wp _ _ _ _ _ _ _ 35 [(0, .ref 331), (1, .int x1)] [] (HS I2 L2 X)
      refine w_iinc (ls2 := [(0, .ref 331), (1, .int (x1 + 1))]) (Ev.cm _) rfl rfl rfl ?_
      refine w_goto (Ev.cm _) rfl ?_
      show Wp _ _ _ _ _ _ _ 15 [(0, .ref 331), (1, .int (x1 + 1))] [] (HS I2 L2 X)
      refine Wp.sub [0, 1] (ls2 := [(0, .ref 331), (1, .int (x1 + 1))]) rfl ?_
      exact ih _ _ _ q
def FO_M_pass (fu : Nat) (I : Nat → Nat → Int32) (L : Nat → Nat → Int64) : Option (Unit × (Nat → Nat → Int32) × (Nat → Nat → Int64)) := (FO_M_drawnBy fu 10 I L).bind (fun u1 => let r1 := u1.1; let I1 := u1.2.1; let L1 := u1.2.2; LO_M_pass_15 fu fu 0 (sI I1 332 9 r1) L1)
set_option maxHeartbeats 20000000 in
set_option maxRecDepth 20000 in
theorem eo_M_pass {d fu : Nat} {I : Nat → Nat → Int32} {L : Nat → Nat → Int64} {X : Nat × (Nat → Int32)} {Q : PQ} {res : Unit × (Nat → Nat → Int32) × (Nat → Nat → Int64)}  (g : Q none (HS res.2.1 res.2.2 X)) (q : FO_M_pass fu  I L = some res) : Ev (d + 11) m_M_pass [.ref 331] (HS I L X) Q := by
  unfold FO_M_pass at q
  refine ev_start (d := d + 10) rfl rfl rfl (Nat.le_of_ble_eq_true rfl) ?_
  show Wp (Ev (d + 10)) cd_M_pass (0, 0) none _ _ Q 0 [(0, .ref 331)] [] (HS I L X)
  refine w_aload_n (Ev.cm _) rfl rfl ?_
  refine w_getR (q := 332) (Ev.cm _) rfl (Nat.le_of_ble_eq_true rfl) rfl rfl ?_
  refine w_bipush (Ev.cm _) rfl ?_
  refine w_aload_n (Ev.cm _) rfl rfl ?_
  refine w_bipush (Ev.cm _) rfl ?_
  obtain ⟨⟨r1, I1, L1⟩, e1, q⟩ := obs q
  dsimp only at q
  refine w_cvirt (o := 331) (as := [.int 10]) (st := [.int 9, .ref 332]) (Ev.cm _) rfl rfl rfl (Nat.le_of_ble_eq_true rfl) (Nat.le_of_ble_eq_true rfl) rfl (Nat.le_of_ble_eq_true rfl) (eo_M_drawnBy (g := ?_) e1)
  show Wp _ _ _ _ _ _ _ 12 [(0, .ref 331)] [.int r1, .int 9, .ref 332] (HS I1 L1 X)
  refine w_iast (Ev.cm _) rfl (Nat.le_of_ble_eq_true rfl) rfl (show vp_in 9 1541 from vpI 1541 (by decide) (by decide) (by decide)) ?_
  refine w_iconst (Ev.cm _) rfl ?_
  refine w_istore_n (ls2 := [(0, .ref 331), (1, .int 0)]) (Ev.cm _) rfl rfl ?_
  show Wp _ _ _ _ _ _ _ 15 [(0, .ref 331), (1, .int 0)] [] (HS (sI I1 332 9 r1) L1 X)
  refine Wp.sub [0, 1] (ls2 := [(0, .ref 331), (1, .int 0)]) rfl ?_
  exact lo_M_pass_15 g fu _ _ _ q
def LO_M_arePassed_7 (fu : Nat) : Nat → Int32 → Int32 → (Nat → Nat → Int32) → (Nat → Nat → Int64) → Option (Int32 × (Nat → Nat → Int32) × (Nat → Nat → Int64))
  | 0, _, _, _, _ => none
  | n + 1, x1, x2, I, L => if x1 ≤ x2 then (some (1, I, L)) else (if I 332 7 = 9999 then (some (0, I, L)) else ((FO_M_keep fu  I L).bind (fun u1 => let r1 := u1.1; let I1 := u1.2.1; let L1 := u1.2.2; (FO_M_pass fu  I1 L1).bind (fun u2 => let r2 := u2.1; let I2 := u2.2.1; let L2 := u2.2.2; LO_M_arePassed_7 fu n x1 (x2 + 1) I2 L2))))
set_option maxHeartbeats 20000000 in
set_option maxRecDepth 20000 in
theorem lo_M_arePassed_7 {d fu n0 s0 : Nat} {X : Nat × (Nat → Int32)} {Q : PQ} {res : Int32 × (Nat → Nat → Int32) × (Nat → Nat → Int64)}  (g : Q (some (.int res.1)) (HS res.2.1 res.2.2 X)) : ∀ (n : Nat) (x1 : Int32) (x2 : Int32) (I : Nat → Nat → Int32) (L : Nat → Nat → Int64), LO_M_arePassed_7 fu n x1 x2 I L = some res → Wp (Ev (d + 11)) cd_M_arePassed (0, 0) (some .boolean) n0 s0 Q 7 [(0, .ref 331), (1, .int x1), (2, .int x2)] [] (HS I L X) := by
  intro n
  induction n with
  | zero => intro _ _ _ _ q; cases q
  | succ n ih =>
    intro x1 x2 I L q
    unfold LO_M_arePassed_7 at q
    refine w_iload_n (Ev.cm _) rfl rfl ?_
    refine w_iload_n (Ev.cm _) rfl rfl ?_
    refine w_icmp_ge (Ev.cm _) rfl (fun c1 => ?_) (fun c1 => ?_)
    · have c1 : x1 ≤ x2 := c1
      rw [if_pos c1] at q
      refine w_iconst (Ev.cm _) rfl ?_
      refine w_ireturn (Ev.cm _) rfl (by first | exact rok_0 | exact rok_1 | exact rok_b) rf0 ?_
      cases q
      exact g
    · have c1 : ¬ (x1 ≤ x2) := c1
      rw [if_neg c1] at q
      refine w_aload_n (Ev.cm _) rfl rfl ?_
      refine w_getR (q := 332) (Ev.cm _) rfl (Nat.le_of_ble_eq_true rfl) rfl rfl ?_
      refine w_bipush (Ev.cm _) rfl ?_
      refine w_iald (Ev.cm _) rfl (Nat.le_of_ble_eq_true rfl) rfl (show vp_in 7 1541 from vpI 1541 (by decide) (by decide) (by decide)) ?_
      refine w_sipush (Ev.cm _) rfl ?_
      refine w_icmp_ne (Ev.cm _) rfl (fun c2 => ?_) (fun c2 => ?_)
      · have c2 : ¬ (I 332 7 = 9999) := c2
        rw [if_neg c2] at q
        refine w_aload_n (Ev.cm _) rfl rfl ?_
        obtain ⟨⟨r1, I1, L1⟩, e1, q⟩ := obs q
        dsimp only at q
        refine w_cvirt (o := 331) (as := []) (st := []) (Ev.cm _) rfl rfl rfl (Nat.le_of_ble_eq_true rfl) (Nat.le_of_ble_eq_true rfl) rfl (Nat.le_of_ble_eq_true rfl) (eo_M_keep (g := ?_) e1)
        show Wp _ _ _ _ _ _ _ 31 [(0, .ref 331), (1, .int x1), (2, .int x2)] [] (HS I1 L1 X)
        refine w_aload_n (Ev.cm _) rfl rfl ?_
        obtain ⟨⟨r2, I2, L2⟩, e2, q⟩ := obs q
        dsimp only at q
        refine w_cvirt (o := 331) (as := []) (st := []) (Ev.cm _) rfl rfl rfl (Nat.le_of_ble_eq_true rfl) (Nat.le_of_ble_eq_true rfl) rfl (Nat.le_of_ble_eq_true rfl) (eo_M_pass (g := ?_) e2)
        show Wp _ _ _ _ _ _ _ 35 [(0, .ref 331), (1, .int x1), (2, .int x2)] [] (HS I2 L2 X)
        refine w_iinc (ls2 := [(0, .ref 331), (1, .int x1), (2, .int (x2 + 1))]) (Ev.cm _) rfl rfl rfl ?_
        refine w_goto (Ev.cm _) rfl ?_
        show Wp _ _ _ _ _ _ _ 7 [(0, .ref 331), (1, .int x1), (2, .int (x2 + 1))] [] (HS I2 L2 X)
        refine Wp.sub [0, 1, 2] (ls2 := [(0, .ref 331), (1, .int x1), (2, .int (x2 + 1))]) rfl ?_
        exact ih _ _ _ _ q
      · have c2 : I 332 7 = 9999 := c2
        rw [if_pos c2] at q
        refine w_iconst (Ev.cm _) rfl ?_
        refine w_ireturn (Ev.cm _) rfl (by first | exact rok_0 | exact rok_1 | exact rok_b) rf0 ?_
        cases q
        exact g
def FO_M_arePassed (fu : Nat) (p0 : Int32) (I : Nat → Nat → Int32) (L : Nat → Nat → Int64) : Option (Int32 × (Nat → Nat → Int32) × (Nat → Nat → Int64)) := LO_M_arePassed_7 fu fu p0 0 (sI I 331 24 0) L
set_option maxHeartbeats 20000000 in
set_option maxRecDepth 20000 in
theorem eo_M_arePassed {d fu : Nat} {p0 : Int32} {I : Nat → Nat → Int32} {L : Nat → Nat → Int64} {X : Nat × (Nat → Int32)} {Q : PQ} {res : Int32 × (Nat → Nat → Int32) × (Nat → Nat → Int64)}  (g : Q (some (.int res.1)) (HS res.2.1 res.2.2 X)) (q : FO_M_arePassed fu p0 I L = some res) : Ev (d + 12) m_M_arePassed [.ref 331, .int p0] (HS I L X) Q := by
  unfold FO_M_arePassed at q
  refine ev_start (d := d + 11) rfl rfl rfl (Nat.le_of_ble_eq_true rfl) ?_
  show Wp (Ev (d + 11)) cd_M_arePassed (0, 0) (some .boolean) _ _ Q 0 [(0, .ref 331), (1, .int p0)] [] (HS I L X)
  refine w_aload_n (Ev.cm _) rfl rfl ?_
  refine w_iconst (Ev.cm _) rfl ?_
  refine w_putI (Ev.cm _) rfl (Nat.le_of_ble_eq_true rfl) rfl ?_
  refine w_iconst (Ev.cm _) rfl ?_
  refine w_istore_n (ls2 := [(0, .ref 331), (1, .int p0), (2, .int 0)]) (Ev.cm _) rfl rfl ?_
  show Wp _ _ _ _ _ _ _ 7 [(0, .ref 331), (1, .int p0), (2, .int 0)] [] (HS (sI I 331 24 0) L X)
  refine Wp.sub [0, 1, 2] (ls2 := [(0, .ref 331), (1, .int p0), (2, .int 0)]) rfl ?_
  exact lo_M_arePassed_7 g fu _ _ _ _ q
def FO_M_hour (fu : Nat) (p0 : Int32) (I : Nat → Nat → Int32) (L : Nat → Nat → Int64) : Option (Int32 × (Nat → Nat → Int32) × (Nat → Nat → Int64)) := if (1 : Int32) ≤ p0 ∧ p0 ≤ (60 : Int32) then (if 9999 < (I 332 7) + p0 then (some ((-1), I, L)) else ((FO_M_arePassed fu p0 I L).bind (fun u1 => let r1 := u1.1; let I1 := u1.2.1; let L1 := u1.2.2; if r1 = 0 then (some ((-1), I1, L1)) else (some (I1 331 24, I1, L1))))) else (some ((-1), I, L))
set_option maxHeartbeats 20000000 in
set_option maxRecDepth 20000 in
theorem eo_M_hour {d fu : Nat} {p0 : Int32} {I : Nat → Nat → Int32} {L : Nat → Nat → Int64} {X : Nat × (Nat → Int32)} {Q : PQ} {res : Int32 × (Nat → Nat → Int32) × (Nat → Nat → Int64)}  (g : Q (some (.int res.1)) (HS res.2.1 res.2.2 X)) (q : FO_M_hour fu p0 I L = some res) : Ev (d + 13) m_M_hour [.ref 331, .int p0] (HS I L X) Q := by
  unfold FO_M_hour at q
  refine ev_start (d := d + 12) rfl rfl rfl (Nat.le_of_ble_eq_true rfl) ?_
  show Wp (Ev (d + 12)) cd_M_hour (0, 0) (some .int) _ _ Q 0 [(0, .ref 331), (1, .int p0)] [] (HS I L X)
  refine w_iload_n (Ev.cm _) rfl rfl ?_
  refine w_iconst (Ev.cm _) rfl ?_
  refine w_bipush (Ev.cm _) rfl ?_
  refine w_cstat (as := [.int p0, .int 1, .int 60]) (st := []) (Ev.cm _) rfl rfl rfl (Nat.le_of_ble_eq_true rfl) (Nat.le_of_ble_eq_true rfl) (m_isIn ?_)
  show Wp _ _ _ _ _ _ _ 7 [(0, .ref 331), (1, .int p0)] [.int (bI ((1 : Int32) ≤ p0 ∧ p0 ≤ (60 : Int32)))] (HS I L X)
  refine w_if_eq (Ev.cm _) rfl (fun c1 => ?_) (fun c1 => ?_)
  · have c1 : ¬ ((1 : Int32) ≤ p0 ∧ p0 ≤ (60 : Int32)) := bI_0.mp c1
    rw [if_neg c1] at q
    refine w_iconst (Ev.cm _) rfl ?_
    refine w_ireturn (Ev.cm _) rfl trivial rf0 ?_
    cases q
    exact g
  · have c1 : (1 : Int32) ≤ p0 ∧ p0 ≤ (60 : Int32) := bI_1.mp c1
    rw [if_pos c1] at q
    refine w_aload_n (Ev.cm _) rfl rfl ?_
    refine w_getR (q := 332) (Ev.cm _) rfl (Nat.le_of_ble_eq_true rfl) rfl rfl ?_
    refine w_bipush (Ev.cm _) rfl ?_
    refine w_iald (Ev.cm _) rfl (Nat.le_of_ble_eq_true rfl) rfl (show vp_in 7 1541 from vpI 1541 (by decide) (by decide) (by decide)) ?_
    refine w_iload_n (Ev.cm _) rfl rfl ?_
    refine w_iadd (Ev.cm _) rfl ?_
    refine w_sipush (Ev.cm _) rfl ?_
    refine w_icmp_gt (Ev.cm _) rfl (fun c2 => ?_) (fun c2 => ?_)
    · have c2 : 9999 < (I 332 7) + p0 := c2
      rw [if_pos c2] at q
      refine w_iconst (Ev.cm _) rfl ?_
      refine w_ireturn (Ev.cm _) rfl trivial rf0 ?_
      cases q
      exact g
    · have c2 : ¬ (9999 < (I 332 7) + p0) := c2
      rw [if_neg c2] at q
      refine w_aload_n (Ev.cm _) rfl rfl ?_
      refine w_iload_n (Ev.cm _) rfl rfl ?_
      obtain ⟨⟨r1, I1, L1⟩, e1, q⟩ := obs q
      dsimp only at q
      refine w_cvirt (o := 331) (as := [.int p0]) (st := []) (Ev.cm _) rfl rfl rfl (Nat.le_of_ble_eq_true rfl) (Nat.le_of_ble_eq_true rfl) rfl (Nat.le_of_ble_eq_true rfl) (eo_M_arePassed (g := ?_) e1)
      show Wp _ _ _ _ _ _ _ 30 [(0, .ref 331), (1, .int p0)] [.int r1] (HS I1 L1 X)
      refine w_if_eq (Ev.cm _) rfl (fun c3 => ?_) (fun c3 => ?_)
      · have c3 : r1 = 0 := c3
        rw [if_pos c3] at q
        refine w_iconst (Ev.cm _) rfl ?_
        refine w_ireturn (Ev.cm _) rfl trivial rf0 ?_
        cases q
        exact g
      · have c3 : ¬ (r1 = 0) := c3
        rw [if_neg c3] at q
        refine w_aload_n (Ev.cm _) rfl rfl ?_
        refine w_getI (Ev.cm _) rfl (Nat.le_of_ble_eq_true rfl) rfl ?_
        refine w_goto (Ev.cm _) rfl ?_
        refine w_ireturn (Ev.cm _) rfl trivial rf0 ?_
        cases q
        exact g
def FO_M_isPlayed (fu : Nat) (p0 : Int32) (I : Nat → Nat → Int32) (L : Nat → Nat → Int64) : Option (Int32 × (Nat → Nat → Int32) × (Nat → Nat → Int64)) := if 0 ≤ p0 + 1 ∧ p0 + 1 < 2724 then (if 0 ≤ p0 + 2 ∧ p0 + 2 < 2724 then (if 0 ≤ p0 ∧ p0 < 2724 then (if I 334 p0.toNatClampNeg = 2 then ((FO_M_lodger fu (I 334 ((p0 + 1).toNatClampNeg)) (I 334 ((p0 + 2).toNatClampNeg)) I L).bind (fun u4 => let r4 := u4.1; let I4 := u4.2.1; let L4 := u4.2.2; if r4 < 0 then (some (0, I4, L4)) else (some (1, I4, L4)))) else (if I 334 p0.toNatClampNeg = 3 then ((FO_M_tread fu (I 334 ((p0 + 2).toNatClampNeg)) 1 (I 334 ((p0 + 1).toNatClampNeg)) I L).bind (fun u5 => let r5 := u5.1; let I5 := u5.2.1; let L5 := u5.2.2; if r5 < 0 then (some (0, I5, L5)) else (some (1, I5, L5)))) else (if I 334 p0.toNatClampNeg = 4 then ((FO_M_tread fu (I 334 ((p0 + 2).toNatClampNeg)) 0 (I 334 ((p0 + 1).toNatClampNeg)) I L).bind (fun u6 => let r6 := u6.1; let I6 := u6.2.1; let L6 := u6.2.2; if r6 < 0 then (some (0, I6, L6)) else (some (1, I6, L6)))) else (if I 334 p0.toNatClampNeg = 5 then ((FO_M_hang fu (I 334 ((p0 + 1).toNatClampNeg)) 1 I L).bind (fun u7 => let r7 := u7.1; let I7 := u7.2.1; let L7 := u7.2.2; if r7 = 0 ∨ r7 = 1 then (some (r7, I7, L7)) else none)) else (if I 334 p0.toNatClampNeg = 6 then ((FO_M_hang fu (I 334 ((p0 + 1).toNatClampNeg)) 0 I L).bind (fun u9 => let r9 := u9.1; let I9 := u9.2.1; let L9 := u9.2.2; if r9 = 0 ∨ r9 = 1 then (some (r9, I9, L9)) else none)) else (if I 334 p0.toNatClampNeg = 7 then ((FO_M_arePassed fu (I 334 ((p0 + 1).toNatClampNeg)) I L).bind (fun u11 => let r11 := u11.1; let I11 := u11.2.1; let L11 := u11.2.2; if r11 = 0 ∨ r11 = 1 then (some (r11, I11, L11)) else none)) else (some (1, I, L)))))))) else none) else none) else none
set_option maxHeartbeats 20000000 in
set_option maxRecDepth 20000 in
theorem eo_M_isPlayed {d fu : Nat} {p0 : Int32} {I : Nat → Nat → Int32} {L : Nat → Nat → Int64} {X : Nat × (Nat → Int32)} {Q : PQ} {res : Int32 × (Nat → Nat → Int32) × (Nat → Nat → Int64)}  (g : Q (some (.int res.1)) (HS res.2.1 res.2.2 X)) (q : FO_M_isPlayed fu p0 I L = some res) : Ev (d + 13) m_M_isPlayed [.ref 331, .int p0] (HS I L X) Q := by
  unfold FO_M_isPlayed at q
  refine ev_start (d := d + 12) rfl rfl rfl (Nat.le_of_ble_eq_true rfl) ?_
  show Wp (Ev (d + 12)) cd_M_isPlayed (0, 0) (some .boolean) _ _ Q 0 [(0, .ref 331), (1, .int p0)] [] (HS I L X)
  refine w_aload_n (Ev.cm _) rfl rfl ?_
  refine w_getR (q := 334) (Ev.cm _) rfl (Nat.le_of_ble_eq_true rfl) rfl rfl ?_
  refine w_iload_n (Ev.cm _) rfl rfl ?_
  refine w_iconst (Ev.cm _) rfl ?_
  refine w_iadd (Ev.cm _) rfl ?_
  obtain ⟨b1, q⟩ := ois q
  refine w_iald (Ev.cm _) rfl (Nat.le_of_ble_eq_true rfl) rfl (show vp_in (p0 + 1) 2724 from vpI 2724 (by decide) b1.1 b1.2) ?_
  refine w_istore_n (ls2 := [(0, .ref 331), (1, .int p0), (2, .int (I 334 ((p0 + 1).toNatClampNeg)))]) (Ev.cm _) rfl rfl ?_
  refine w_aload_n (Ev.cm _) rfl rfl ?_
  refine w_getR (q := 334) (Ev.cm _) rfl (Nat.le_of_ble_eq_true rfl) rfl rfl ?_
  refine w_iload_n (Ev.cm _) rfl rfl ?_
  refine w_iconst (Ev.cm _) rfl ?_
  refine w_iadd (Ev.cm _) rfl ?_
  obtain ⟨b2, q⟩ := ois q
  refine w_iald (Ev.cm _) rfl (Nat.le_of_ble_eq_true rfl) rfl (show vp_in (p0 + 2) 2724 from vpI 2724 (by decide) b2.1 b2.2) ?_
  refine w_istore_n (ls2 := [(0, .ref 331), (1, .int p0), (2, .int (I 334 ((p0 + 1).toNatClampNeg))), (3, .int (I 334 ((p0 + 2).toNatClampNeg)))]) (Ev.cm _) rfl rfl ?_
  refine w_aload_n (Ev.cm _) rfl rfl ?_
  refine w_getR (q := 334) (Ev.cm _) rfl (Nat.le_of_ble_eq_true rfl) rfl rfl ?_
  refine w_iload_n (Ev.cm _) rfl rfl ?_
  obtain ⟨b3, q⟩ := ois q
  refine w_iald (Ev.cm _) rfl (Nat.le_of_ble_eq_true rfl) rfl (show vp_in p0 2724 from vpI 2724 (by decide) b3.1 b3.2) ?_
  refine w_tswL (Ev.cm _) [(2, 40), (3, 55), (4, 71), (5, 87), (6, 94), (7, 101)] rfl (by decide +kernel) (by decide +kernel) ?_
  refine ⟨fun c1 => ?_, fun c1_0 => ⟨fun c1 => ?_, fun c1_1 => ⟨fun c1 => ?_, fun c1_2 => ⟨fun c1 => ?_, fun c1_3 => ⟨fun c1 => ?_, fun c1_4 => ⟨fun c1 => ?_, fun c1_5 => ?_⟩⟩⟩⟩⟩⟩
  · have c1 : I 334 p0.toNatClampNeg = 2 := sw_v c1 (by decide)
    rw [if_pos c1] at q
    show Wp _ _ _ _ _ _ _ 64 [(0, .ref 331), (1, .int p0), (2, .int (I 334 ((p0 + 1).toNatClampNeg))), (3, .int (I 334 ((p0 + 2).toNatClampNeg)))] [] (HS I L X)
    refine w_aload_n (Ev.cm _) rfl rfl ?_
    refine w_iload_n (Ev.cm _) rfl rfl ?_
    refine w_iload_n (Ev.cm _) rfl rfl ?_
    obtain ⟨⟨r4, I4, L4⟩, e4, q⟩ := obs q
    dsimp only at q
    refine w_cvirt (o := 331) (as := [.int (I 334 ((p0 + 1).toNatClampNeg)), .int (I 334 ((p0 + 2).toNatClampNeg))]) (st := []) (Ev.cm _) rfl rfl rfl (Nat.le_of_ble_eq_true rfl) (Nat.le_of_ble_eq_true rfl) rfl (Nat.le_of_ble_eq_true rfl) (eo_M_lodger (g := ?_) e4)
    show Wp _ _ _ _ _ _ _ 70 [(0, .ref 331), (1, .int p0), (2, .int (I 334 ((p0 + 1).toNatClampNeg))), (3, .int (I 334 ((p0 + 2).toNatClampNeg)))] [.int r4] (HS I4 L4 X)
    refine w_if_lt (Ev.cm _) rfl (fun c2 => ?_) (fun c2 => ?_)
    · have c2 : r4 < 0 := c2
      rw [if_pos c2] at q
      refine w_iconst (Ev.cm _) rfl ?_
      refine w_ireturn (Ev.cm _) rfl (by first | exact rok_0 | exact rok_1 | exact rok_b) rf0 ?_
      cases q
      exact g
    · have c2 : ¬ (r4 < 0) := c2
      rw [if_neg c2] at q
      refine w_iconst (Ev.cm _) rfl ?_
      refine w_goto (Ev.cm _) rfl ?_
      refine w_ireturn (Ev.cm _) rfl (by first | exact rok_0 | exact rok_1 | exact rok_b) rf0 ?_
      cases q
      exact g
  · have c1_0 : ¬ I 334 p0.toNatClampNeg = 2 := sw_w c1_0 (by decide)
    have c1 : I 334 p0.toNatClampNeg = 3 := sw_v c1 (by decide)
    rw [if_neg c1_0, if_pos c1] at q
    show Wp _ _ _ _ _ _ _ 79 [(0, .ref 331), (1, .int p0), (2, .int (I 334 ((p0 + 1).toNatClampNeg))), (3, .int (I 334 ((p0 + 2).toNatClampNeg)))] [] (HS I L X)
    refine w_aload_n (Ev.cm _) rfl rfl ?_
    refine w_iload_n (Ev.cm _) rfl rfl ?_
    refine w_iconst (Ev.cm _) rfl ?_
    refine w_iload_n (Ev.cm _) rfl rfl ?_
    obtain ⟨⟨r5, I5, L5⟩, e5, q⟩ := obs q
    dsimp only at q
    refine w_cvirt (o := 331) (as := [.int (I 334 ((p0 + 2).toNatClampNeg)), .int 1, .int (I 334 ((p0 + 1).toNatClampNeg))]) (st := []) (Ev.cm _) rfl rfl rfl (Nat.le_of_ble_eq_true rfl) (Nat.le_of_ble_eq_true rfl) rfl (Nat.le_of_ble_eq_true rfl) (eo_M_tread (g := ?_) e5)
    show Wp _ _ _ _ _ _ _ 86 [(0, .ref 331), (1, .int p0), (2, .int (I 334 ((p0 + 1).toNatClampNeg))), (3, .int (I 334 ((p0 + 2).toNatClampNeg)))] [.int r5] (HS I5 L5 X)
    refine w_if_lt (Ev.cm _) rfl (fun c3 => ?_) (fun c3 => ?_)
    · have c3 : r5 < 0 := c3
      rw [if_pos c3] at q
      refine w_iconst (Ev.cm _) rfl ?_
      refine w_ireturn (Ev.cm _) rfl (by first | exact rok_0 | exact rok_1 | exact rok_b) rf0 ?_
      cases q
      exact g
    · have c3 : ¬ (r5 < 0) := c3
      rw [if_neg c3] at q
      refine w_iconst (Ev.cm _) rfl ?_
      refine w_goto (Ev.cm _) rfl ?_
      refine w_ireturn (Ev.cm _) rfl (by first | exact rok_0 | exact rok_1 | exact rok_b) rf0 ?_
      cases q
      exact g
  · have c1_0 : ¬ I 334 p0.toNatClampNeg = 2 := sw_w c1_0 (by decide)
    have c1_1 : ¬ I 334 p0.toNatClampNeg = 3 := sw_w c1_1 (by decide)
    have c1 : I 334 p0.toNatClampNeg = 4 := sw_v c1 (by decide)
    rw [if_neg c1_0, if_neg c1_1, if_pos c1] at q
    show Wp _ _ _ _ _ _ _ 95 [(0, .ref 331), (1, .int p0), (2, .int (I 334 ((p0 + 1).toNatClampNeg))), (3, .int (I 334 ((p0 + 2).toNatClampNeg)))] [] (HS I L X)
    refine w_aload_n (Ev.cm _) rfl rfl ?_
    refine w_iload_n (Ev.cm _) rfl rfl ?_
    refine w_iconst (Ev.cm _) rfl ?_
    refine w_iload_n (Ev.cm _) rfl rfl ?_
    obtain ⟨⟨r6, I6, L6⟩, e6, q⟩ := obs q
    dsimp only at q
    refine w_cvirt (o := 331) (as := [.int (I 334 ((p0 + 2).toNatClampNeg)), .int 0, .int (I 334 ((p0 + 1).toNatClampNeg))]) (st := []) (Ev.cm _) rfl rfl rfl (Nat.le_of_ble_eq_true rfl) (Nat.le_of_ble_eq_true rfl) rfl (Nat.le_of_ble_eq_true rfl) (eo_M_tread (g := ?_) e6)
    show Wp _ _ _ _ _ _ _ 102 [(0, .ref 331), (1, .int p0), (2, .int (I 334 ((p0 + 1).toNatClampNeg))), (3, .int (I 334 ((p0 + 2).toNatClampNeg)))] [.int r6] (HS I6 L6 X)
    refine w_if_lt (Ev.cm _) rfl (fun c4 => ?_) (fun c4 => ?_)
    · have c4 : r6 < 0 := c4
      rw [if_pos c4] at q
      refine w_iconst (Ev.cm _) rfl ?_
      refine w_ireturn (Ev.cm _) rfl (by first | exact rok_0 | exact rok_1 | exact rok_b) rf0 ?_
      cases q
      exact g
    · have c4 : ¬ (r6 < 0) := c4
      rw [if_neg c4] at q
      refine w_iconst (Ev.cm _) rfl ?_
      refine w_goto (Ev.cm _) rfl ?_
      refine w_ireturn (Ev.cm _) rfl (by first | exact rok_0 | exact rok_1 | exact rok_b) rf0 ?_
      cases q
      exact g
  · have c1_0 : ¬ I 334 p0.toNatClampNeg = 2 := sw_w c1_0 (by decide)
    have c1_1 : ¬ I 334 p0.toNatClampNeg = 3 := sw_w c1_1 (by decide)
    have c1_2 : ¬ I 334 p0.toNatClampNeg = 4 := sw_w c1_2 (by decide)
    have c1 : I 334 p0.toNatClampNeg = 5 := sw_v c1 (by decide)
    rw [if_neg c1_0, if_neg c1_1, if_neg c1_2, if_pos c1] at q
    show Wp _ _ _ _ _ _ _ 111 [(0, .ref 331), (1, .int p0), (2, .int (I 334 ((p0 + 1).toNatClampNeg))), (3, .int (I 334 ((p0 + 2).toNatClampNeg)))] [] (HS I L X)
    refine w_aload_n (Ev.cm _) rfl rfl ?_
    refine w_iload_n (Ev.cm _) rfl rfl ?_
    refine w_iconst (Ev.cm _) rfl ?_
    obtain ⟨⟨r7, I7, L7⟩, e7, q⟩ := obs q
    dsimp only at q
    refine w_cvirt (o := 331) (as := [.int (I 334 ((p0 + 1).toNatClampNeg)), .int 1]) (st := []) (Ev.cm _) rfl rfl rfl (Nat.le_of_ble_eq_true rfl) (Nat.le_of_ble_eq_true rfl) rfl (Nat.le_of_ble_eq_true rfl) (eo_M_hang (g := ?_) e7)
    show Wp _ _ _ _ _ _ _ 117 [(0, .ref 331), (1, .int p0), (2, .int (I 334 ((p0 + 1).toNatClampNeg))), (3, .int (I 334 ((p0 + 2).toNatClampNeg)))] [.int r7] (HS I7 L7 X)
    obtain ⟨b8, q⟩ := ois q
    refine w_ireturn (Ev.cm _) rfl (show rok (some .boolean) _ from b8) rf0 ?_
    cases q
    exact g
  · have c1_0 : ¬ I 334 p0.toNatClampNeg = 2 := sw_w c1_0 (by decide)
    have c1_1 : ¬ I 334 p0.toNatClampNeg = 3 := sw_w c1_1 (by decide)
    have c1_2 : ¬ I 334 p0.toNatClampNeg = 4 := sw_w c1_2 (by decide)
    have c1_3 : ¬ I 334 p0.toNatClampNeg = 5 := sw_w c1_3 (by decide)
    have c1 : I 334 p0.toNatClampNeg = 6 := sw_v c1 (by decide)
    rw [if_neg c1_0, if_neg c1_1, if_neg c1_2, if_neg c1_3, if_pos c1] at q
    show Wp _ _ _ _ _ _ _ 118 [(0, .ref 331), (1, .int p0), (2, .int (I 334 ((p0 + 1).toNatClampNeg))), (3, .int (I 334 ((p0 + 2).toNatClampNeg)))] [] (HS I L X)
    refine w_aload_n (Ev.cm _) rfl rfl ?_
    refine w_iload_n (Ev.cm _) rfl rfl ?_
    refine w_iconst (Ev.cm _) rfl ?_
    obtain ⟨⟨r9, I9, L9⟩, e9, q⟩ := obs q
    dsimp only at q
    refine w_cvirt (o := 331) (as := [.int (I 334 ((p0 + 1).toNatClampNeg)), .int 0]) (st := []) (Ev.cm _) rfl rfl rfl (Nat.le_of_ble_eq_true rfl) (Nat.le_of_ble_eq_true rfl) rfl (Nat.le_of_ble_eq_true rfl) (eo_M_hang (g := ?_) e9)
    show Wp _ _ _ _ _ _ _ 124 [(0, .ref 331), (1, .int p0), (2, .int (I 334 ((p0 + 1).toNatClampNeg))), (3, .int (I 334 ((p0 + 2).toNatClampNeg)))] [.int r9] (HS I9 L9 X)
    obtain ⟨b10, q⟩ := ois q
    refine w_ireturn (Ev.cm _) rfl (show rok (some .boolean) _ from b10) rf0 ?_
    cases q
    exact g
  · have c1_0 : ¬ I 334 p0.toNatClampNeg = 2 := sw_w c1_0 (by decide)
    have c1_1 : ¬ I 334 p0.toNatClampNeg = 3 := sw_w c1_1 (by decide)
    have c1_2 : ¬ I 334 p0.toNatClampNeg = 4 := sw_w c1_2 (by decide)
    have c1_3 : ¬ I 334 p0.toNatClampNeg = 5 := sw_w c1_3 (by decide)
    have c1_4 : ¬ I 334 p0.toNatClampNeg = 6 := sw_w c1_4 (by decide)
    have c1 : I 334 p0.toNatClampNeg = 7 := sw_v c1 (by decide)
    rw [if_neg c1_0, if_neg c1_1, if_neg c1_2, if_neg c1_3, if_neg c1_4, if_pos c1] at q
    show Wp _ _ _ _ _ _ _ 125 [(0, .ref 331), (1, .int p0), (2, .int (I 334 ((p0 + 1).toNatClampNeg))), (3, .int (I 334 ((p0 + 2).toNatClampNeg)))] [] (HS I L X)
    refine w_aload_n (Ev.cm _) rfl rfl ?_
    refine w_iload_n (Ev.cm _) rfl rfl ?_
    obtain ⟨⟨r11, I11, L11⟩, e11, q⟩ := obs q
    dsimp only at q
    refine w_cvirt (o := 331) (as := [.int (I 334 ((p0 + 1).toNatClampNeg))]) (st := []) (Ev.cm _) rfl rfl rfl (Nat.le_of_ble_eq_true rfl) (Nat.le_of_ble_eq_true rfl) rfl (Nat.le_of_ble_eq_true rfl) (eo_M_arePassed (g := ?_) e11)
    show Wp _ _ _ _ _ _ _ 130 [(0, .ref 331), (1, .int p0), (2, .int (I 334 ((p0 + 1).toNatClampNeg))), (3, .int (I 334 ((p0 + 2).toNatClampNeg)))] [.int r11] (HS I11 L11 X)
    obtain ⟨b12, q⟩ := ois q
    refine w_ireturn (Ev.cm _) rfl (show rok (some .boolean) _ from b12) rf0 ?_
    cases q
    exact g
  · have c1_0 : ¬ I 334 p0.toNatClampNeg = 2 := sw_w c1_0 (by decide)
    have c1_1 : ¬ I 334 p0.toNatClampNeg = 3 := sw_w c1_1 (by decide)
    have c1_2 : ¬ I 334 p0.toNatClampNeg = 4 := sw_w c1_2 (by decide)
    have c1_3 : ¬ I 334 p0.toNatClampNeg = 5 := sw_w c1_3 (by decide)
    have c1_4 : ¬ I 334 p0.toNatClampNeg = 6 := sw_w c1_4 (by decide)
    have c1_5 : ¬ I 334 p0.toNatClampNeg = 7 := sw_w c1_5 (by decide)
    rw [if_neg c1_0, if_neg c1_1, if_neg c1_2, if_neg c1_3, if_neg c1_4, if_neg c1_5] at q
    show Wp _ _ _ _ _ _ _ 131 [(0, .ref 331), (1, .int p0), (2, .int (I 334 ((p0 + 1).toNatClampNeg))), (3, .int (I 334 ((p0 + 2).toNatClampNeg)))] [] (HS I L X)
    refine w_iconst (Ev.cm _) rfl ?_
    refine w_ireturn (Ev.cm _) rfl (by first | exact rok_0 | exact rok_1 | exact rok_b) rf0 ?_
    cases q
    exact g
def LO_M_played_21 (fu : Nat) : Nat → Int32 → Int32 → (Nat → Nat → Int32) → (Nat → Nat → Int64) → Option (Int32 × (Nat → Nat → Int32) × (Nat → Nat → Int64))
  | 0, _, _, _, _ => none
  | n + 1, x1, x2, I, L => if 0 ≤ (681 : Int32) * x1 ∧ (681 : Int32) * x1 < 2724 then (if I 334 (((681 : Int32) * x1).toNatClampNeg) ≤ x2 then (some ((-1), I, L)) else ((FO_M_isPlayed fu ((((681 : Int32) * x1) + 1) + ((3 : Int32) * x2)) I L).bind (fun u2 => let r2 := u2.1; let I2 := u2.2.1; let L2 := u2.2.2; if r2 = 0 then (some (x2, I2, L2)) else (LO_M_played_21 fu n x1 (x2 + 1) I2 L2)))) else none
set_option maxHeartbeats 20000000 in
set_option maxRecDepth 20000 in
theorem lo_M_played_21 {d fu n0 s0 : Nat} {X : Nat × (Nat → Int32)} {Q : PQ} {res : Int32 × (Nat → Nat → Int32) × (Nat → Nat → Int64)}  (g : Q (some (.int res.1)) (HS res.2.1 res.2.2 X)) : ∀ (n : Nat) (x1 : Int32) (x2 : Int32) (I : Nat → Nat → Int32) (L : Nat → Nat → Int64), LO_M_played_21 fu n x1 x2 I L = some res → Wp (Ev (d + 13)) cd_M_played (0, 0) (some .int) n0 s0 Q 21 [(0, .ref 331), (1, .int x1), (2, .int x2)] [] (HS I L X) := by
  intro n
  induction n with
  | zero => intro _ _ _ _ q; cases q
  | succ n ih =>
    intro x1 x2 I L q
    unfold LO_M_played_21 at q
    refine w_iload_n (Ev.cm _) rfl rfl ?_
    refine w_aload_n (Ev.cm _) rfl rfl ?_
    refine w_getR (q := 334) (Ev.cm _) rfl (Nat.le_of_ble_eq_true rfl) rfl rfl ?_
    refine w_sipush (Ev.cm _) rfl ?_
    refine w_iload_n (Ev.cm _) rfl rfl ?_
    refine w_imul (Ev.cm _) rfl ?_
    obtain ⟨b1, q⟩ := ois q
    refine w_iald (Ev.cm _) rfl (Nat.le_of_ble_eq_true rfl) rfl (show vp_in ((681 : Int32) * x1) 2724 from vpI 2724 (by decide) b1.1 b1.2) ?_
    refine w_icmp_ge (Ev.cm _) rfl (fun c1 => ?_) (fun c1 => ?_)
    · have c1 : I 334 (((681 : Int32) * x1).toNatClampNeg) ≤ x2 := c1
      rw [if_pos c1] at q
      refine w_iconst (Ev.cm _) rfl ?_
      refine w_ireturn (Ev.cm _) rfl trivial rf0 ?_
      cases q
      exact g
    · have c1 : ¬ (I 334 (((681 : Int32) * x1).toNatClampNeg) ≤ x2) := c1
      rw [if_neg c1] at q
      refine w_aload_n (Ev.cm _) rfl rfl ?_
      refine w_sipush (Ev.cm _) rfl ?_
      refine w_iload_n (Ev.cm _) rfl rfl ?_
      refine w_imul (Ev.cm _) rfl ?_
      refine w_iconst (Ev.cm _) rfl ?_
      refine w_iadd (Ev.cm _) rfl ?_
      refine w_iconst (Ev.cm _) rfl ?_
      refine w_iload_n (Ev.cm _) rfl rfl ?_
      refine w_imul (Ev.cm _) rfl ?_
      refine w_iadd (Ev.cm _) rfl ?_
      obtain ⟨⟨r2, I2, L2⟩, e2, q⟩ := obs q
      dsimp only at q
      refine w_cvirt (o := 331) (as := [.int ((((681 : Int32) * x1) + 1) + ((3 : Int32) * x2))]) (st := []) (Ev.cm _) rfl rfl rfl (Nat.le_of_ble_eq_true rfl) (Nat.le_of_ble_eq_true rfl) rfl (Nat.le_of_ble_eq_true rfl) (eo_M_isPlayed (g := ?_) e2)
      show Wp _ _ _ _ _ _ _ 50 [(0, .ref 331), (1, .int x1), (2, .int x2)] [.int r2] (HS I2 L2 X)
      refine w_if_ne (Ev.cm _) rfl (fun c2 => ?_) (fun c2 => ?_)
      · have c2 : ¬ (r2 = 0) := c2
        rw [if_neg c2] at q
        refine w_iinc (ls2 := [(0, .ref 331), (1, .int x1), (2, .int (x2 + 1))]) (Ev.cm _) rfl rfl rfl ?_
        refine w_goto (Ev.cm _) rfl ?_
        show Wp _ _ _ _ _ _ _ 21 [(0, .ref 331), (1, .int x1), (2, .int (x2 + 1))] [] (HS I2 L2 X)
        refine Wp.sub [0, 1, 2] (ls2 := [(0, .ref 331), (1, .int x1), (2, .int (x2 + 1))]) rfl ?_
        exact ih _ _ _ _ q
      · have c2 : r2 = 0 := c2
        rw [if_pos c2] at q
        refine w_iload_n (Ev.cm _) rfl rfl ?_
        refine w_ireturn (Ev.cm _) rfl trivial rf0 ?_
        cases q
        exact g
def FO_M_played (fu : Nat) (p0 : Int32) (I : Nat → Nat → Int32) (L : Nat → Nat → Int64) : Option (Int32 × (Nat → Nat → Int32) × (Nat → Nat → Int64)) := if (0 : Int32) ≤ p0 ∧ p0 ≤ ((I 332 1) - 1) then (LO_M_played_21 fu fu p0 0 I L) else (some ((-2), I, L))
set_option maxHeartbeats 20000000 in
set_option maxRecDepth 20000 in
theorem eo_M_played {d fu : Nat} {p0 : Int32} {I : Nat → Nat → Int32} {L : Nat → Nat → Int64} {X : Nat × (Nat → Int32)} {Q : PQ} {res : Int32 × (Nat → Nat → Int32) × (Nat → Nat → Int64)}  (g : Q (some (.int res.1)) (HS res.2.1 res.2.2 X)) (q : FO_M_played fu p0 I L = some res) : Ev (d + 14) m_M_played [.ref 331, .int p0] (HS I L X) Q := by
  unfold FO_M_played at q
  refine ev_start (d := d + 13) rfl rfl rfl (Nat.le_of_ble_eq_true rfl) ?_
  show Wp (Ev (d + 13)) cd_M_played (0, 0) (some .int) _ _ Q 0 [(0, .ref 331), (1, .int p0)] [] (HS I L X)
  refine w_iload_n (Ev.cm _) rfl rfl ?_
  refine w_iconst (Ev.cm _) rfl ?_
  refine w_aload_n (Ev.cm _) rfl rfl ?_
  refine w_getR (q := 332) (Ev.cm _) rfl (Nat.le_of_ble_eq_true rfl) rfl rfl ?_
  refine w_iconst (Ev.cm _) rfl ?_
  refine w_iald (Ev.cm _) rfl (Nat.le_of_ble_eq_true rfl) rfl (show vp_in 1 1541 from vpI 1541 (by decide) (by decide) (by decide)) ?_
  refine w_iconst (Ev.cm _) rfl ?_
  refine w_isub (Ev.cm _) rfl ?_
  refine w_cstat (as := [.int p0, .int 0, .int ((I 332 1) - 1)]) (st := []) (Ev.cm _) rfl rfl rfl (Nat.le_of_ble_eq_true rfl) (Nat.le_of_ble_eq_true rfl) (m_isIn ?_)
  show Wp _ _ _ _ _ _ _ 13 [(0, .ref 331), (1, .int p0)] [.int (bI ((0 : Int32) ≤ p0 ∧ p0 ≤ ((I 332 1) - 1)))] (HS I L X)
  refine w_if_ne (Ev.cm _) rfl (fun c1 => ?_) (fun c1 => ?_)
  · have c1 : (0 : Int32) ≤ p0 ∧ p0 ≤ ((I 332 1) - 1) := bI_1.mp c1
    rw [if_pos c1] at q
    refine w_iconst (Ev.cm _) rfl ?_
    refine w_istore_n (ls2 := [(0, .ref 331), (1, .int p0), (2, .int 0)]) (Ev.cm _) rfl rfl ?_
    show Wp _ _ _ _ _ _ _ 21 [(0, .ref 331), (1, .int p0), (2, .int 0)] [] (HS I L X)
    refine Wp.sub [0, 1, 2] (ls2 := [(0, .ref 331), (1, .int p0), (2, .int 0)]) rfl ?_
    exact lo_M_played_21 g fu _ _ _ _ q
  · have c1 : ¬ ((0 : Int32) ≤ p0 ∧ p0 ≤ ((I 332 1) - 1)) := bI_0.mp c1
    rw [if_neg c1] at q
    refine w_bipush (Ev.cm _) rfl ?_
    refine w_ireturn (Ev.cm _) rfl trivial rf0 ?_
    cases q
    exact g
def FO_M_happens (fu : Nat) (p0 : Int32) (I : Nat → Nat → Int32) (L : Nat → Nat → Int64) : Option (Unit × (Nat → Nat → Int32) × (Nat → Nat → Int64)) := if iR p0 6 = 0 then (if I 332 0 ≤ 0 then (some ((), I, L)) else (if ¬ I 332 0 = 0 then (if iR p0 6 = 0 then ((FO_M_canTread fu (iR p0 (I 332 0)) 1 ((1 : Int32) + (iR p0 3)) I L).bind (fun u6 => let r6 := u6.1; let I6 := u6.2.1; let L6 := u6.2.2; if r6 = 0 then (some ((), I6, L6)) else (if ¬ I6 332 0 = 0 then (if iR p0 6 = 0 then ((FO_M_treadNow fu (iR p0 (I6 332 0)) 1 ((1 : Int32) + (iR p0 3)) I6 L6).bind (fun u9 => let r9 := u9.1; let I9 := u9.2.1; let L9 := u9.2.2; some ((), I9, L9))) else ((FO_M_treadNow fu (iR p0 (I6 332 0)) 0 ((1 : Int32) + (iR p0 3)) I6 L6).bind (fun u8 => let r8 := u8.1; let I8 := u8.2.1; let L8 := u8.2.2; some ((), I8, L8)))) else none))) else ((FO_M_canTread fu (iR p0 (I 332 0)) 0 ((1 : Int32) + (iR p0 3)) I L).bind (fun u2 => let r2 := u2.1; let I2 := u2.2.1; let L2 := u2.2.2; if r2 = 0 then (some ((), I2, L2)) else (if ¬ I2 332 0 = 0 then (if iR p0 6 = 0 then ((FO_M_treadNow fu (iR p0 (I2 332 0)) 1 ((1 : Int32) + (iR p0 3)) I2 L2).bind (fun u5 => let r5 := u5.1; let I5 := u5.2.1; let L5 := u5.2.2; some ((), I5, L5))) else ((FO_M_treadNow fu (iR p0 (I2 332 0)) 0 ((1 : Int32) + (iR p0 3)) I2 L2).bind (fun u4 => let r4 := u4.1; let I4 := u4.2.1; let L4 := u4.2.2; some ((), I4, L4)))) else none)))) else none)) else (if iR p0 6 = 1 then (if I 332 0 ≤ 0 then (some ((), I, L)) else (if ¬ I 332 0 = 0 then (if iR p0 6 = 0 then ((FO_M_canTread fu (iR p0 (I 332 0)) 1 ((1 : Int32) + (iR p0 3)) I L).bind (fun u15 => let r15 := u15.1; let I15 := u15.2.1; let L15 := u15.2.2; if r15 = 0 then (some ((), I15, L15)) else (if ¬ I15 332 0 = 0 then (if iR p0 6 = 0 then ((FO_M_treadNow fu (iR p0 (I15 332 0)) 1 ((1 : Int32) + (iR p0 3)) I15 L15).bind (fun u18 => let r18 := u18.1; let I18 := u18.2.1; let L18 := u18.2.2; some ((), I18, L18))) else ((FO_M_treadNow fu (iR p0 (I15 332 0)) 0 ((1 : Int32) + (iR p0 3)) I15 L15).bind (fun u17 => let r17 := u17.1; let I17 := u17.2.1; let L17 := u17.2.2; some ((), I17, L17)))) else none))) else ((FO_M_canTread fu (iR p0 (I 332 0)) 0 ((1 : Int32) + (iR p0 3)) I L).bind (fun u11 => let r11 := u11.1; let I11 := u11.2.1; let L11 := u11.2.2; if r11 = 0 then (some ((), I11, L11)) else (if ¬ I11 332 0 = 0 then (if iR p0 6 = 0 then ((FO_M_treadNow fu (iR p0 (I11 332 0)) 1 ((1 : Int32) + (iR p0 3)) I11 L11).bind (fun u14 => let r14 := u14.1; let I14 := u14.2.1; let L14 := u14.2.2; some ((), I14, L14))) else ((FO_M_treadNow fu (iR p0 (I11 332 0)) 0 ((1 : Int32) + (iR p0 3)) I11 L11).bind (fun u13 => let r13 := u13.1; let I13 := u13.2.1; let L13 := u13.2.2; some ((), I13, L13)))) else none)))) else none)) else (if iR p0 6 = 2 then (some ((), sI I 332 10 ((I 332 10) ||| ((1 : Int32) <<< (((1 : Int32) + (iR (p0 / 6) 12)) &&& 31))), L)) else (if iR p0 6 = 3 then (some ((), sI I 332 10 ((I 332 10) &&& (((1 : Int32) <<< (((1 : Int32) + (iR (p0 / 6) 12)) &&& 31)) ^^^ (-1))), L)) else (if 9999 ≤ I 332 7 then (some ((), I, L)) else ((FO_M_pass fu  I L).bind (fun u19 => let r19 := u19.1; let I19 := u19.2.1; let L19 := u19.2.2; some ((), I19, L19)))))))
set_option maxHeartbeats 20000000 in
set_option maxRecDepth 20000 in
theorem eo_M_happens {d fu : Nat} {p0 : Int32} {I : Nat → Nat → Int32} {L : Nat → Nat → Int64} {X : Nat × (Nat → Int32)} {Q : PQ} {res : Unit × (Nat → Nat → Int32) × (Nat → Nat → Int64)}  (g : Q none (HS res.2.1 res.2.2 X)) (q : FO_M_happens fu p0 I L = some res) : Ev (d + 12) m_M_happens [.ref 331, .int p0] (HS I L X) Q := by
  unfold FO_M_happens at q
  refine ev_start (d := d + 11) rfl rfl rfl (Nat.le_of_ble_eq_true rfl) ?_
  show Wp (Ev (d + 11)) cd_M_happens (0, 0) none _ _ Q 0 [(0, .ref 331), (1, .int p0)] [] (HS I L X)
  refine w_iconst (Ev.cm _) rfl ?_
  refine w_iload_n (Ev.cm _) rfl rfl ?_
  refine w_bipush (Ev.cm _) rfl ?_
  refine w_idiv (Ev.cm _) rfl (by decide) ?_
  refine w_bipush (Ev.cm _) rfl ?_
  refine w_irem (Ev.cm _) rfl (by decide) ?_
  refine w_iadd (Ev.cm _) rfl ?_
  refine w_istore_n (ls2 := [(0, .ref 331), (1, .int p0), (2, .int ((1 : Int32) + (iR (p0 / 6) 12)))]) (Ev.cm _) rfl rfl ?_
  refine w_iload_n (Ev.cm _) rfl rfl ?_
  refine w_bipush (Ev.cm _) rfl ?_
  refine w_irem (Ev.cm _) rfl (by decide) ?_
  refine w_tswL (Ev.cm _) [(0, 30), (1, 30), (2, 104), (3, 120)] rfl (by decide +kernel) (by decide +kernel) ?_
  refine ⟨fun c1 => ?_, fun c1_0 => ⟨fun c1 => ?_, fun c1_1 => ⟨fun c1 => ?_, fun c1_2 => ⟨fun c1 => ?_, fun c1_3 => ?_⟩⟩⟩⟩
  · have c1 : iR p0 6 = 0 := sw_v c1 (by decide)
    rw [if_pos c1] at q
    show Wp _ _ _ _ _ _ _ 44 [(0, .ref 331), (1, .int p0), (2, .int ((1 : Int32) + (iR (p0 / 6) 12)))] [] (HS I L X)
    refine w_aload_n (Ev.cm _) rfl rfl ?_
    refine w_getR (q := 332) (Ev.cm _) rfl (Nat.le_of_ble_eq_true rfl) rfl rfl ?_
    refine w_iconst (Ev.cm _) rfl ?_
    refine w_iald (Ev.cm _) rfl (Nat.le_of_ble_eq_true rfl) rfl (show vp_in 0 1541 from vpI 1541 (by decide) (by decide) (by decide)) ?_
    refine w_if_le (Ev.cm _) rfl (fun c2 => ?_) (fun c2 => ?_)
    · have c2 : I 332 0 ≤ 0 := c2
      rw [if_pos c2] at q
      refine w_return (Ev.cm _) rfl rfl rf0 ?_
      cases q
      exact g
    · have c2 : ¬ (I 332 0 ≤ 0) := c2
      rw [if_neg c2] at q
      refine w_aload_n (Ev.cm _) rfl rfl ?_
      refine w_iload_n (Ev.cm _) rfl rfl ?_
      refine w_aload_n (Ev.cm _) rfl rfl ?_
      refine w_getR (q := 332) (Ev.cm _) rfl (Nat.le_of_ble_eq_true rfl) rfl rfl ?_
      refine w_iconst (Ev.cm _) rfl ?_
      refine w_iald (Ev.cm _) rfl (Nat.le_of_ble_eq_true rfl) rfl (show vp_in 0 1541 from vpI 1541 (by decide) (by decide) (by decide)) ?_
      obtain ⟨b1, q⟩ := ois q
      refine w_irem (Ev.cm _) rfl b1 ?_
      refine w_iload_n (Ev.cm _) rfl rfl ?_
      refine w_bipush (Ev.cm _) rfl ?_
      refine w_irem (Ev.cm _) rfl (by decide) ?_
      refine w_if_ne (Ev.cm _) rfl (fun c3 => ?_) (fun c3 => ?_)
      · have c3 : ¬ (iR p0 6 = 0) := c3
        rw [if_neg c3] at q
        refine w_iconst (Ev.cm _) rfl ?_
        refine w_iconst (Ev.cm _) rfl ?_
        refine w_iload_n (Ev.cm _) rfl rfl ?_
        refine w_iconst (Ev.cm _) rfl ?_
        refine w_irem (Ev.cm _) rfl (by decide) ?_
        refine w_iadd (Ev.cm _) rfl ?_
        obtain ⟨⟨r2, I2, L2⟩, e2, q⟩ := obs q
        dsimp only at q
        refine w_cvirt (o := 331) (as := [.int (iR p0 (I 332 0)), .int 0, .int ((1 : Int32) + (iR p0 3))]) (st := []) (Ev.cm _) rfl rfl rfl (Nat.le_of_ble_eq_true rfl) (Nat.le_of_ble_eq_true rfl) rfl (Nat.le_of_ble_eq_true rfl) (eo_M_canTread (g := ?_) e2)
        show Wp _ _ _ _ _ _ _ 82 [(0, .ref 331), (1, .int p0), (2, .int ((1 : Int32) + (iR (p0 / 6) 12)))] [.int r2] (HS I2 L2 X)
        refine w_if_eq (Ev.cm _) rfl (fun c4 => ?_) (fun c4 => ?_)
        · have c4 : r2 = 0 := c4
          rw [if_pos c4] at q
          refine w_return (Ev.cm _) rfl rfl rf0 ?_
          cases q
          exact g
        · have c4 : ¬ (r2 = 0) := c4
          rw [if_neg c4] at q
          refine w_aload_n (Ev.cm _) rfl rfl ?_
          refine w_iload_n (Ev.cm _) rfl rfl ?_
          refine w_aload_n (Ev.cm _) rfl rfl ?_
          refine w_getR (q := 332) (Ev.cm _) rfl (Nat.le_of_ble_eq_true rfl) rfl rfl ?_
          refine w_iconst (Ev.cm _) rfl ?_
          refine w_iald (Ev.cm _) rfl (Nat.le_of_ble_eq_true rfl) rfl (show vp_in 0 1541 from vpI 1541 (by decide) (by decide) (by decide)) ?_
          obtain ⟨b3, q⟩ := ois q
          refine w_irem (Ev.cm _) rfl b3 ?_
          refine w_iload_n (Ev.cm _) rfl rfl ?_
          refine w_bipush (Ev.cm _) rfl ?_
          refine w_irem (Ev.cm _) rfl (by decide) ?_
          refine w_if_ne (Ev.cm _) rfl (fun c5 => ?_) (fun c5 => ?_)
          · have c5 : ¬ (iR p0 6 = 0) := c5
            rw [if_neg c5] at q
            refine w_iconst (Ev.cm _) rfl ?_
            refine w_iconst (Ev.cm _) rfl ?_
            refine w_iload_n (Ev.cm _) rfl rfl ?_
            refine w_iconst (Ev.cm _) rfl ?_
            refine w_irem (Ev.cm _) rfl (by decide) ?_
            refine w_iadd (Ev.cm _) rfl ?_
            obtain ⟨⟨r4, I4, L4⟩, e4, q⟩ := obs q
            dsimp only at q
            refine w_cvirt (o := 331) (as := [.int (iR p0 (I2 332 0)), .int 0, .int ((1 : Int32) + (iR p0 3))]) (st := []) (Ev.cm _) rfl rfl rfl (Nat.le_of_ble_eq_true rfl) (Nat.le_of_ble_eq_true rfl) rfl (Nat.le_of_ble_eq_true rfl) (eo_M_treadNow (g := ?_) e4)
            show Wp _ _ _ _ _ _ _ 114 [(0, .ref 331), (1, .int p0), (2, .int ((1 : Int32) + (iR (p0 / 6) 12)))] [.int r4] (HS I4 L4 X)
            refine w_pop (Ev.cm _) rfl rfl ?_
            refine w_goto (Ev.cm _) rfl ?_
            refine w_return (Ev.cm _) rfl rfl rf0 ?_
            cases q
            exact g
          · have c5 : iR p0 6 = 0 := c5
            rw [if_pos c5] at q
            refine w_iconst (Ev.cm _) rfl ?_
            refine w_goto (Ev.cm _) rfl ?_
            refine w_iconst (Ev.cm _) rfl ?_
            refine w_iload_n (Ev.cm _) rfl rfl ?_
            refine w_iconst (Ev.cm _) rfl ?_
            refine w_irem (Ev.cm _) rfl (by decide) ?_
            refine w_iadd (Ev.cm _) rfl ?_
            obtain ⟨⟨r5, I5, L5⟩, e5, q⟩ := obs q
            dsimp only at q
            refine w_cvirt (o := 331) (as := [.int (iR p0 (I2 332 0)), .int 1, .int ((1 : Int32) + (iR p0 3))]) (st := []) (Ev.cm _) rfl rfl rfl (Nat.le_of_ble_eq_true rfl) (Nat.le_of_ble_eq_true rfl) rfl (Nat.le_of_ble_eq_true rfl) (eo_M_treadNow (g := ?_) e5)
            show Wp _ _ _ _ _ _ _ 114 [(0, .ref 331), (1, .int p0), (2, .int ((1 : Int32) + (iR (p0 / 6) 12)))] [.int r5] (HS I5 L5 X)
            refine w_pop (Ev.cm _) rfl rfl ?_
            refine w_goto (Ev.cm _) rfl ?_
            refine w_return (Ev.cm _) rfl rfl rf0 ?_
            cases q
            exact g
      · have c3 : iR p0 6 = 0 := c3
        rw [if_pos c3] at q
        refine w_iconst (Ev.cm _) rfl ?_
        refine w_goto (Ev.cm _) rfl ?_
        refine w_iconst (Ev.cm _) rfl ?_
        refine w_iload_n (Ev.cm _) rfl rfl ?_
        refine w_iconst (Ev.cm _) rfl ?_
        refine w_irem (Ev.cm _) rfl (by decide) ?_
        refine w_iadd (Ev.cm _) rfl ?_
        obtain ⟨⟨r6, I6, L6⟩, e6, q⟩ := obs q
        dsimp only at q
        refine w_cvirt (o := 331) (as := [.int (iR p0 (I 332 0)), .int 1, .int ((1 : Int32) + (iR p0 3))]) (st := []) (Ev.cm _) rfl rfl rfl (Nat.le_of_ble_eq_true rfl) (Nat.le_of_ble_eq_true rfl) rfl (Nat.le_of_ble_eq_true rfl) (eo_M_canTread (g := ?_) e6)
        show Wp _ _ _ _ _ _ _ 82 [(0, .ref 331), (1, .int p0), (2, .int ((1 : Int32) + (iR (p0 / 6) 12)))] [.int r6] (HS I6 L6 X)
        refine w_if_eq (Ev.cm _) rfl (fun c6 => ?_) (fun c6 => ?_)
        · have c6 : r6 = 0 := c6
          rw [if_pos c6] at q
          refine w_return (Ev.cm _) rfl rfl rf0 ?_
          cases q
          exact g
        · have c6 : ¬ (r6 = 0) := c6
          rw [if_neg c6] at q
          refine w_aload_n (Ev.cm _) rfl rfl ?_
          refine w_iload_n (Ev.cm _) rfl rfl ?_
          refine w_aload_n (Ev.cm _) rfl rfl ?_
          refine w_getR (q := 332) (Ev.cm _) rfl (Nat.le_of_ble_eq_true rfl) rfl rfl ?_
          refine w_iconst (Ev.cm _) rfl ?_
          refine w_iald (Ev.cm _) rfl (Nat.le_of_ble_eq_true rfl) rfl (show vp_in 0 1541 from vpI 1541 (by decide) (by decide) (by decide)) ?_
          obtain ⟨b7, q⟩ := ois q
          refine w_irem (Ev.cm _) rfl b7 ?_
          refine w_iload_n (Ev.cm _) rfl rfl ?_
          refine w_bipush (Ev.cm _) rfl ?_
          refine w_irem (Ev.cm _) rfl (by decide) ?_
          refine w_if_ne (Ev.cm _) rfl (fun c7 => ?_) (fun c7 => ?_)
          · have c7 : ¬ (iR p0 6 = 0) := c7
            rw [if_neg c7] at q
            refine w_iconst (Ev.cm _) rfl ?_
            refine w_iconst (Ev.cm _) rfl ?_
            refine w_iload_n (Ev.cm _) rfl rfl ?_
            refine w_iconst (Ev.cm _) rfl ?_
            refine w_irem (Ev.cm _) rfl (by decide) ?_
            refine w_iadd (Ev.cm _) rfl ?_
            obtain ⟨⟨r8, I8, L8⟩, e8, q⟩ := obs q
            dsimp only at q
            refine w_cvirt (o := 331) (as := [.int (iR p0 (I6 332 0)), .int 0, .int ((1 : Int32) + (iR p0 3))]) (st := []) (Ev.cm _) rfl rfl rfl (Nat.le_of_ble_eq_true rfl) (Nat.le_of_ble_eq_true rfl) rfl (Nat.le_of_ble_eq_true rfl) (eo_M_treadNow (g := ?_) e8)
            show Wp _ _ _ _ _ _ _ 114 [(0, .ref 331), (1, .int p0), (2, .int ((1 : Int32) + (iR (p0 / 6) 12)))] [.int r8] (HS I8 L8 X)
            refine w_pop (Ev.cm _) rfl rfl ?_
            refine w_goto (Ev.cm _) rfl ?_
            refine w_return (Ev.cm _) rfl rfl rf0 ?_
            cases q
            exact g
          · have c7 : iR p0 6 = 0 := c7
            rw [if_pos c7] at q
            refine w_iconst (Ev.cm _) rfl ?_
            refine w_goto (Ev.cm _) rfl ?_
            refine w_iconst (Ev.cm _) rfl ?_
            refine w_iload_n (Ev.cm _) rfl rfl ?_
            refine w_iconst (Ev.cm _) rfl ?_
            refine w_irem (Ev.cm _) rfl (by decide) ?_
            refine w_iadd (Ev.cm _) rfl ?_
            obtain ⟨⟨r9, I9, L9⟩, e9, q⟩ := obs q
            dsimp only at q
            refine w_cvirt (o := 331) (as := [.int (iR p0 (I6 332 0)), .int 1, .int ((1 : Int32) + (iR p0 3))]) (st := []) (Ev.cm _) rfl rfl rfl (Nat.le_of_ble_eq_true rfl) (Nat.le_of_ble_eq_true rfl) rfl (Nat.le_of_ble_eq_true rfl) (eo_M_treadNow (g := ?_) e9)
            show Wp _ _ _ _ _ _ _ 114 [(0, .ref 331), (1, .int p0), (2, .int ((1 : Int32) + (iR (p0 / 6) 12)))] [.int r9] (HS I9 L9 X)
            refine w_pop (Ev.cm _) rfl rfl ?_
            refine w_goto (Ev.cm _) rfl ?_
            refine w_return (Ev.cm _) rfl rfl rf0 ?_
            cases q
            exact g
  · have c1_0 : ¬ iR p0 6 = 0 := sw_w c1_0 (by decide)
    have c1 : iR p0 6 = 1 := sw_v c1 (by decide)
    rw [if_neg c1_0, if_pos c1] at q
    show Wp _ _ _ _ _ _ _ 44 [(0, .ref 331), (1, .int p0), (2, .int ((1 : Int32) + (iR (p0 / 6) 12)))] [] (HS I L X)
    refine w_aload_n (Ev.cm _) rfl rfl ?_
    refine w_getR (q := 332) (Ev.cm _) rfl (Nat.le_of_ble_eq_true rfl) rfl rfl ?_
    refine w_iconst (Ev.cm _) rfl ?_
    refine w_iald (Ev.cm _) rfl (Nat.le_of_ble_eq_true rfl) rfl (show vp_in 0 1541 from vpI 1541 (by decide) (by decide) (by decide)) ?_
    refine w_if_le (Ev.cm _) rfl (fun c8 => ?_) (fun c8 => ?_)
    · have c8 : I 332 0 ≤ 0 := c8
      rw [if_pos c8] at q
      refine w_return (Ev.cm _) rfl rfl rf0 ?_
      cases q
      exact g
    · have c8 : ¬ (I 332 0 ≤ 0) := c8
      rw [if_neg c8] at q
      refine w_aload_n (Ev.cm _) rfl rfl ?_
      refine w_iload_n (Ev.cm _) rfl rfl ?_
      refine w_aload_n (Ev.cm _) rfl rfl ?_
      refine w_getR (q := 332) (Ev.cm _) rfl (Nat.le_of_ble_eq_true rfl) rfl rfl ?_
      refine w_iconst (Ev.cm _) rfl ?_
      refine w_iald (Ev.cm _) rfl (Nat.le_of_ble_eq_true rfl) rfl (show vp_in 0 1541 from vpI 1541 (by decide) (by decide) (by decide)) ?_
      obtain ⟨b10, q⟩ := ois q
      refine w_irem (Ev.cm _) rfl b10 ?_
      refine w_iload_n (Ev.cm _) rfl rfl ?_
      refine w_bipush (Ev.cm _) rfl ?_
      refine w_irem (Ev.cm _) rfl (by decide) ?_
      refine w_if_ne (Ev.cm _) rfl (fun c9 => ?_) (fun c9 => ?_)
      · have c9 : ¬ (iR p0 6 = 0) := c9
        rw [if_neg c9] at q
        refine w_iconst (Ev.cm _) rfl ?_
        refine w_iconst (Ev.cm _) rfl ?_
        refine w_iload_n (Ev.cm _) rfl rfl ?_
        refine w_iconst (Ev.cm _) rfl ?_
        refine w_irem (Ev.cm _) rfl (by decide) ?_
        refine w_iadd (Ev.cm _) rfl ?_
        obtain ⟨⟨r11, I11, L11⟩, e11, q⟩ := obs q
        dsimp only at q
        refine w_cvirt (o := 331) (as := [.int (iR p0 (I 332 0)), .int 0, .int ((1 : Int32) + (iR p0 3))]) (st := []) (Ev.cm _) rfl rfl rfl (Nat.le_of_ble_eq_true rfl) (Nat.le_of_ble_eq_true rfl) rfl (Nat.le_of_ble_eq_true rfl) (eo_M_canTread (g := ?_) e11)
        show Wp _ _ _ _ _ _ _ 82 [(0, .ref 331), (1, .int p0), (2, .int ((1 : Int32) + (iR (p0 / 6) 12)))] [.int r11] (HS I11 L11 X)
        refine w_if_eq (Ev.cm _) rfl (fun c10 => ?_) (fun c10 => ?_)
        · have c10 : r11 = 0 := c10
          rw [if_pos c10] at q
          refine w_return (Ev.cm _) rfl rfl rf0 ?_
          cases q
          exact g
        · have c10 : ¬ (r11 = 0) := c10
          rw [if_neg c10] at q
          refine w_aload_n (Ev.cm _) rfl rfl ?_
          refine w_iload_n (Ev.cm _) rfl rfl ?_
          refine w_aload_n (Ev.cm _) rfl rfl ?_
          refine w_getR (q := 332) (Ev.cm _) rfl (Nat.le_of_ble_eq_true rfl) rfl rfl ?_
          refine w_iconst (Ev.cm _) rfl ?_
          refine w_iald (Ev.cm _) rfl (Nat.le_of_ble_eq_true rfl) rfl (show vp_in 0 1541 from vpI 1541 (by decide) (by decide) (by decide)) ?_
          obtain ⟨b12, q⟩ := ois q
          refine w_irem (Ev.cm _) rfl b12 ?_
          refine w_iload_n (Ev.cm _) rfl rfl ?_
          refine w_bipush (Ev.cm _) rfl ?_
          refine w_irem (Ev.cm _) rfl (by decide) ?_
          refine w_if_ne (Ev.cm _) rfl (fun c11 => ?_) (fun c11 => ?_)
          · have c11 : ¬ (iR p0 6 = 0) := c11
            rw [if_neg c11] at q
            refine w_iconst (Ev.cm _) rfl ?_
            refine w_iconst (Ev.cm _) rfl ?_
            refine w_iload_n (Ev.cm _) rfl rfl ?_
            refine w_iconst (Ev.cm _) rfl ?_
            refine w_irem (Ev.cm _) rfl (by decide) ?_
            refine w_iadd (Ev.cm _) rfl ?_
            obtain ⟨⟨r13, I13, L13⟩, e13, q⟩ := obs q
            dsimp only at q
            refine w_cvirt (o := 331) (as := [.int (iR p0 (I11 332 0)), .int 0, .int ((1 : Int32) + (iR p0 3))]) (st := []) (Ev.cm _) rfl rfl rfl (Nat.le_of_ble_eq_true rfl) (Nat.le_of_ble_eq_true rfl) rfl (Nat.le_of_ble_eq_true rfl) (eo_M_treadNow (g := ?_) e13)
            show Wp _ _ _ _ _ _ _ 114 [(0, .ref 331), (1, .int p0), (2, .int ((1 : Int32) + (iR (p0 / 6) 12)))] [.int r13] (HS I13 L13 X)
            refine w_pop (Ev.cm _) rfl rfl ?_
            refine w_goto (Ev.cm _) rfl ?_
            refine w_return (Ev.cm _) rfl rfl rf0 ?_
            cases q
            exact g
          · have c11 : iR p0 6 = 0 := c11
            rw [if_pos c11] at q
            refine w_iconst (Ev.cm _) rfl ?_
            refine w_goto (Ev.cm _) rfl ?_
            refine w_iconst (Ev.cm _) rfl ?_
            refine w_iload_n (Ev.cm _) rfl rfl ?_
            refine w_iconst (Ev.cm _) rfl ?_
            refine w_irem (Ev.cm _) rfl (by decide) ?_
            refine w_iadd (Ev.cm _) rfl ?_
            obtain ⟨⟨r14, I14, L14⟩, e14, q⟩ := obs q
            dsimp only at q
            refine w_cvirt (o := 331) (as := [.int (iR p0 (I11 332 0)), .int 1, .int ((1 : Int32) + (iR p0 3))]) (st := []) (Ev.cm _) rfl rfl rfl (Nat.le_of_ble_eq_true rfl) (Nat.le_of_ble_eq_true rfl) rfl (Nat.le_of_ble_eq_true rfl) (eo_M_treadNow (g := ?_) e14)
            show Wp _ _ _ _ _ _ _ 114 [(0, .ref 331), (1, .int p0), (2, .int ((1 : Int32) + (iR (p0 / 6) 12)))] [.int r14] (HS I14 L14 X)
            refine w_pop (Ev.cm _) rfl rfl ?_
            refine w_goto (Ev.cm _) rfl ?_
            refine w_return (Ev.cm _) rfl rfl rf0 ?_
            cases q
            exact g
      · have c9 : iR p0 6 = 0 := c9
        rw [if_pos c9] at q
        refine w_iconst (Ev.cm _) rfl ?_
        refine w_goto (Ev.cm _) rfl ?_
        refine w_iconst (Ev.cm _) rfl ?_
        refine w_iload_n (Ev.cm _) rfl rfl ?_
        refine w_iconst (Ev.cm _) rfl ?_
        refine w_irem (Ev.cm _) rfl (by decide) ?_
        refine w_iadd (Ev.cm _) rfl ?_
        obtain ⟨⟨r15, I15, L15⟩, e15, q⟩ := obs q
        dsimp only at q
        refine w_cvirt (o := 331) (as := [.int (iR p0 (I 332 0)), .int 1, .int ((1 : Int32) + (iR p0 3))]) (st := []) (Ev.cm _) rfl rfl rfl (Nat.le_of_ble_eq_true rfl) (Nat.le_of_ble_eq_true rfl) rfl (Nat.le_of_ble_eq_true rfl) (eo_M_canTread (g := ?_) e15)
        show Wp _ _ _ _ _ _ _ 82 [(0, .ref 331), (1, .int p0), (2, .int ((1 : Int32) + (iR (p0 / 6) 12)))] [.int r15] (HS I15 L15 X)
        refine w_if_eq (Ev.cm _) rfl (fun c12 => ?_) (fun c12 => ?_)
        · have c12 : r15 = 0 := c12
          rw [if_pos c12] at q
          refine w_return (Ev.cm _) rfl rfl rf0 ?_
          cases q
          exact g
        · have c12 : ¬ (r15 = 0) := c12
          rw [if_neg c12] at q
          refine w_aload_n (Ev.cm _) rfl rfl ?_
          refine w_iload_n (Ev.cm _) rfl rfl ?_
          refine w_aload_n (Ev.cm _) rfl rfl ?_
          refine w_getR (q := 332) (Ev.cm _) rfl (Nat.le_of_ble_eq_true rfl) rfl rfl ?_
          refine w_iconst (Ev.cm _) rfl ?_
          refine w_iald (Ev.cm _) rfl (Nat.le_of_ble_eq_true rfl) rfl (show vp_in 0 1541 from vpI 1541 (by decide) (by decide) (by decide)) ?_
          obtain ⟨b16, q⟩ := ois q
          refine w_irem (Ev.cm _) rfl b16 ?_
          refine w_iload_n (Ev.cm _) rfl rfl ?_
          refine w_bipush (Ev.cm _) rfl ?_
          refine w_irem (Ev.cm _) rfl (by decide) ?_
          refine w_if_ne (Ev.cm _) rfl (fun c13 => ?_) (fun c13 => ?_)
          · have c13 : ¬ (iR p0 6 = 0) := c13
            rw [if_neg c13] at q
            refine w_iconst (Ev.cm _) rfl ?_
            refine w_iconst (Ev.cm _) rfl ?_
            refine w_iload_n (Ev.cm _) rfl rfl ?_
            refine w_iconst (Ev.cm _) rfl ?_
            refine w_irem (Ev.cm _) rfl (by decide) ?_
            refine w_iadd (Ev.cm _) rfl ?_
            obtain ⟨⟨r17, I17, L17⟩, e17, q⟩ := obs q
            dsimp only at q
            refine w_cvirt (o := 331) (as := [.int (iR p0 (I15 332 0)), .int 0, .int ((1 : Int32) + (iR p0 3))]) (st := []) (Ev.cm _) rfl rfl rfl (Nat.le_of_ble_eq_true rfl) (Nat.le_of_ble_eq_true rfl) rfl (Nat.le_of_ble_eq_true rfl) (eo_M_treadNow (g := ?_) e17)
            show Wp _ _ _ _ _ _ _ 114 [(0, .ref 331), (1, .int p0), (2, .int ((1 : Int32) + (iR (p0 / 6) 12)))] [.int r17] (HS I17 L17 X)
            refine w_pop (Ev.cm _) rfl rfl ?_
            refine w_goto (Ev.cm _) rfl ?_
            refine w_return (Ev.cm _) rfl rfl rf0 ?_
            cases q
            exact g
          · have c13 : iR p0 6 = 0 := c13
            rw [if_pos c13] at q
            refine w_iconst (Ev.cm _) rfl ?_
            refine w_goto (Ev.cm _) rfl ?_
            refine w_iconst (Ev.cm _) rfl ?_
            refine w_iload_n (Ev.cm _) rfl rfl ?_
            refine w_iconst (Ev.cm _) rfl ?_
            refine w_irem (Ev.cm _) rfl (by decide) ?_
            refine w_iadd (Ev.cm _) rfl ?_
            obtain ⟨⟨r18, I18, L18⟩, e18, q⟩ := obs q
            dsimp only at q
            refine w_cvirt (o := 331) (as := [.int (iR p0 (I15 332 0)), .int 1, .int ((1 : Int32) + (iR p0 3))]) (st := []) (Ev.cm _) rfl rfl rfl (Nat.le_of_ble_eq_true rfl) (Nat.le_of_ble_eq_true rfl) rfl (Nat.le_of_ble_eq_true rfl) (eo_M_treadNow (g := ?_) e18)
            show Wp _ _ _ _ _ _ _ 114 [(0, .ref 331), (1, .int p0), (2, .int ((1 : Int32) + (iR (p0 / 6) 12)))] [.int r18] (HS I18 L18 X)
            refine w_pop (Ev.cm _) rfl rfl ?_
            refine w_goto (Ev.cm _) rfl ?_
            refine w_return (Ev.cm _) rfl rfl rf0 ?_
            cases q
            exact g
  · have c1_0 : ¬ iR p0 6 = 0 := sw_w c1_0 (by decide)
    have c1_1 : ¬ iR p0 6 = 1 := sw_w c1_1 (by decide)
    have c1 : iR p0 6 = 2 := sw_v c1 (by decide)
    rw [if_neg c1_0, if_neg c1_1, if_pos c1] at q
    show Wp _ _ _ _ _ _ _ 118 [(0, .ref 331), (1, .int p0), (2, .int ((1 : Int32) + (iR (p0 / 6) 12)))] [] (HS I L X)
    refine w_aload_n (Ev.cm _) rfl rfl ?_
    refine w_getR (q := 332) (Ev.cm _) rfl (Nat.le_of_ble_eq_true rfl) rfl rfl ?_
    refine w_bipush (Ev.cm _) rfl ?_
    refine w_dup2 (Ev.cm _) rfl rfl rfl ?_
    refine w_iald (Ev.cm _) rfl (Nat.le_of_ble_eq_true rfl) rfl (show vp_in 10 1541 from vpI 1541 (by decide) (by decide) (by decide)) ?_
    refine w_iconst (Ev.cm _) rfl ?_
    refine w_iload_n (Ev.cm _) rfl rfl ?_
    refine w_ishl (Ev.cm _) rfl ?_
    refine w_ior (Ev.cm _) rfl ?_
    refine w_iast (Ev.cm _) rfl (Nat.le_of_ble_eq_true rfl) rfl (show vp_in 10 1541 from vpI 1541 (by decide) (by decide) (by decide)) ?_
    refine w_goto (Ev.cm _) rfl ?_
    refine w_return (Ev.cm _) rfl rfl rf0 ?_
    cases q
    exact g
  · have c1_0 : ¬ iR p0 6 = 0 := sw_w c1_0 (by decide)
    have c1_1 : ¬ iR p0 6 = 1 := sw_w c1_1 (by decide)
    have c1_2 : ¬ iR p0 6 = 2 := sw_w c1_2 (by decide)
    have c1 : iR p0 6 = 3 := sw_v c1 (by decide)
    rw [if_neg c1_0, if_neg c1_1, if_neg c1_2, if_pos c1] at q
    show Wp _ _ _ _ _ _ _ 134 [(0, .ref 331), (1, .int p0), (2, .int ((1 : Int32) + (iR (p0 / 6) 12)))] [] (HS I L X)
    refine w_aload_n (Ev.cm _) rfl rfl ?_
    refine w_getR (q := 332) (Ev.cm _) rfl (Nat.le_of_ble_eq_true rfl) rfl rfl ?_
    refine w_bipush (Ev.cm _) rfl ?_
    refine w_dup2 (Ev.cm _) rfl rfl rfl ?_
    refine w_iald (Ev.cm _) rfl (Nat.le_of_ble_eq_true rfl) rfl (show vp_in 10 1541 from vpI 1541 (by decide) (by decide) (by decide)) ?_
    refine w_iconst (Ev.cm _) rfl ?_
    refine w_iload_n (Ev.cm _) rfl rfl ?_
    refine w_ishl (Ev.cm _) rfl ?_
    refine w_iconst (Ev.cm _) rfl ?_
    refine w_ixor (Ev.cm _) rfl ?_
    refine w_iand (Ev.cm _) rfl ?_
    refine w_iast (Ev.cm _) rfl (Nat.le_of_ble_eq_true rfl) rfl (show vp_in 10 1541 from vpI 1541 (by decide) (by decide) (by decide)) ?_
    refine w_goto (Ev.cm _) rfl ?_
    refine w_return (Ev.cm _) rfl rfl rf0 ?_
    cases q
    exact g
  · have c1_0 : ¬ iR p0 6 = 0 := sw_w c1_0 (by decide)
    have c1_1 : ¬ iR p0 6 = 1 := sw_w c1_1 (by decide)
    have c1_2 : ¬ iR p0 6 = 2 := sw_w c1_2 (by decide)
    have c1_3 : ¬ iR p0 6 = 3 := sw_w c1_3 (by decide)
    rw [if_neg c1_0, if_neg c1_1, if_neg c1_2, if_neg c1_3] at q
    show Wp _ _ _ _ _ _ _ 152 [(0, .ref 331), (1, .int p0), (2, .int ((1 : Int32) + (iR (p0 / 6) 12)))] [] (HS I L X)
    refine w_aload_n (Ev.cm _) rfl rfl ?_
    refine w_getR (q := 332) (Ev.cm _) rfl (Nat.le_of_ble_eq_true rfl) rfl rfl ?_
    refine w_bipush (Ev.cm _) rfl ?_
    refine w_iald (Ev.cm _) rfl (Nat.le_of_ble_eq_true rfl) rfl (show vp_in 7 1541 from vpI 1541 (by decide) (by decide) (by decide)) ?_
    refine w_sipush (Ev.cm _) rfl ?_
    refine w_icmp_ge (Ev.cm _) rfl (fun c14 => ?_) (fun c14 => ?_)
    · have c14 : 9999 ≤ I 332 7 := c14
      rw [if_pos c14] at q
      refine w_return (Ev.cm _) rfl rfl rf0 ?_
      cases q
      exact g
    · have c14 : ¬ (9999 ≤ I 332 7) := c14
      rw [if_neg c14] at q
      refine w_aload_n (Ev.cm _) rfl rfl ?_
      obtain ⟨⟨r19, I19, L19⟩, e19, q⟩ := obs q
      dsimp only at q
      refine w_cvirt (o := 331) (as := []) (st := []) (Ev.cm _) rfl rfl rfl (Nat.le_of_ble_eq_true rfl) (Nat.le_of_ble_eq_true rfl) rfl (Nat.le_of_ble_eq_true rfl) (eo_M_pass (g := ?_) e19)
      show Wp _ _ _ _ _ _ _ 169 [(0, .ref 331), (1, .int p0), (2, .int ((1 : Int32) + (iR (p0 / 6) 12)))] [] (HS I19 L19 X)
      refine w_return (Ev.cm _) rfl rfl rf0 ?_
      cases q
      exact g
